import java.util.List;
import java.util.function.Function;
import java.util.function.Supplier;

/**
 * What is refused changes nothing. Two objects are brought to one state, one of them is asked what it refuses, and
 * then both must answer alike to all that can be asked: of what there is, images, the tape, sheets, what is seen.
 */
public final class RefusalTest extends Checks {
    private record Probe(String name, Function<MoundVotes, String> answers) { }

    /** Costs nothing and has room for all that a sheet may tell. */
    private static final String FREE = "lord 9;lord 9;lord 9;lord 9;"
        + "plain 1 1;plain 1 1;plain 1 1;plain 1 1;plain 1 1;plain 1 1;price 0;";

    private static final List<Probe> PROBES = List.of(
        new Probe("what there is", RefusalTest::whatThereIs),
        new Probe("image 0", x -> x.back(0) + whatThereIs(x)),
        new Probe("image 1", x -> x.back(1) + whatThereIs(x)),
        new Probe("the tape", x -> x.text() + whatThereIs(x)),
        new Probe("sheet 0", x -> whatSheetHas(x, 0)),
        new Probe("sheet 1", x -> whatSheetHas(x, 1)),
        new Probe("sheet 2", x -> whatSheetHas(x, 2)),
        new Probe("sheet 3", x -> whatSheetHas(x, 3)),
        new Probe("what is seen", RefusalTest::whatIsSeen));

    public static void main(String[] args) {
        refusedWhenBusy();
        refusedWhenFull();
        refusedWhenNew();
        askedWhenBusy();
        refusedTextChangesTheTapeAlone();
        finish();
    }

    /** Something of all: a fault of a text, both images, a sheet of each lane, a torn read, a tape, two seen. */
    private static MoundVotes busy() {
        MoundVotes x = new MoundVotes();
        tell(x, TOWN);
        tell(x, "wall;");
        x.keep(0);
        x.alter(1, 0, 2);
        x.buy(2, 0);
        x.keep(1);
        x.price(3);
        x.alter(4, 1, 2);
        lay(x, 0, 0, 1, 2, 2, 4, 0, 5);
        lay(x, 1, 1, 2, 4, 1);
        lay(x, 2, 2, 0, 1, 3, 2, 1, 5);
        x.read(1, 1, 0, 2);
        x.see(4, true);
        x.see(3, false);
        feedAll(x, "lord 7;plain 3 1 0;price 4;");
        return x;
    }

    private static void lay(MoundVotes x, int k, int lane, int... cells) {
        x.sheet(k, lane, cells.length);
        for (int i = 0; i < cells.length; i++) {
            x.lay(k, i, cells[i]);
        }
    }

    /** No seats and no guineas, a full tape, six seen, one image. */
    private static MoundVotes full() {
        MoundVotes x = new MoundVotes();
        tell(x, "lord 0;lord 0;plain 1 0;plain 1 0 1;");
        x.keep(0);
        for (int i = 0; i < 6; i++) {
            x.see(i % 4, false);
        }
        x.sheet(0, 0, 0);
        feedAll(x, "lord 5;" + " ".repeat(153));
        return x;
    }

    private static void refusedWhenBusy() {
        about(1, "what is refused changes nothing");
        changeNothing(RefusalTest::busy, BAD, "feed(-1)", "feed(128)", "end(-1)", "end(28)", "rule(-1)", "rule(7)",
            "lord(3, 0)", "lord(0, 3)", "borough(6, 0)", "borough(0, 6)", "alter(6, 0, 0)", "alter(-1, 0, 0)",
            "alter(0, 3, 1)", "alter(0, -1, 1)", "alter(0, 0, 4)", "alter(0, 0, -1)", "alter(0, 1, 0)",
            "alter(0, 1, 10)", "alter(0, 2, 4)", "alter(0, 2, -1)", "give(6, 0)", "give(-1, -4)", "give(0, 3)",
            "give(0, -1)", "purse(3, 1)", "purse(-1, 1)", "purse(0, 100)", "purse(0, -1)", "price(10)", "price(-1)",
            "buy(3, 0)", "buy(0, 6)", "take(-1)", "take(7)");
        changeNothing(RefusalTest::busy, BAD, "carry(8, 0)", "carry(0, 2)", "swings(3)", "share(3, 0)", "share(0, 2)",
            "alone(6, 0)", "alone(2, 2)", "cheap(3, 0)", "cheap(0, 2)", "able(3)", "climb(3)", "small(6)", "line(6)",
            "bribe(7, 0)", "luck(11, 0, 0)", "luck(0, 8, 0)", "mean(11, 0, 0)", "mean(0, 8, 0)", "see(8, 1)",
            "see(-1, 0)", "forget(3)", "forget(-1)", "owners(6)", "seats(6)", "ask(6, 0)", "ask(0, 2)");
        changeNothing(RefusalTest::busy, BAD, "drift(1, 0, 0)", "drift(1, 61, 0)", "drift(1, 1, 2)", "keep(2)",
            "keep(-1)", "back(2)", "back(-1)", "sheet(4, 0, 1)", "sheet(0, 3, 1)", "sheet(0, 1, 41)",
            "sheet(3, 0, 41)", "lay(4, 0, 0)", "read(4, 0, 0, 1)", "read(0, 3, 0, 1)", "read(0, 0, 0, 21)",
            "read(0, 0, 0, -1)", "count(-1)", "count(6)");
        changeNothing(RefusalTest::busy, STATE, "buy(2, 3)", "buy(1, 3)", "alone(0, 0)");
        changeNothing(RefusalTest::busy, NONE, "take(6)", "small(5)", "line(5)", "bribe(6, 0)");
        changeNothing(RefusalTest::busy, -11, "lay(3, 0, 1)");
        changeNothing(RefusalTest::busy, -12, "lay(0, 6, 1)", "lay(0, -1, 1)");
        changeNothing(RefusalTest::busy, -14, "sheet(0, 1, -1)", "sheet(3, 0, -1)");
        changeNothing(RefusalTest::busy, -20, "read(2, 2, 2, 1)");
        changeNothing(RefusalTest::busy, -21, "read(2, 2, 0, 3)", "read(0, 0, 0, 3)");
    }

    private static void refusedWhenFull() {
        about(1, "what is refused changes nothing");
        changeNothing(RefusalTest::full, BAD, "feed(-1)", "end(161)", "see(4, 1)", "forget(7)", "take(7)", "back(2)");
        changeNothing(RefusalTest::full, STATE, "buy(0, 0)", "buy(1, 1)", "alone(1, 0)", "back(1)");
        changeNothing(RefusalTest::full, FULL, "feed(32)", "feed(64)", "see(0, 1)", "see(3, 1)");
        changeNothing(RefusalTest::full, NONE, "take(1)", "small(0)", "line(1)", "bribe(0, 1)", "cheap(0, 0)",
            "climb(0)", "ask(0, 0)");
        changeNothing(RefusalTest::full, -12, "lay(0, 0, 1)");
    }

    private static void refusedWhenNew() {
        about(1, "what is refused changes nothing");
        changeNothing(MoundVotes::new, BAD, "purse(0, 1)", "alter(0, 1, 1)", "buy(0, 0)", "give(0, -4)", "end(1)",
            "see(1, 1)", "forget(1)");
        changeNothing(MoundVotes::new, STATE, "drift(1, 1, 0)", "back(0)", "back(1)");
        changeNothing(MoundVotes::new, NONE, "take(1)", "small(0)", "line(1)", "bribe(0, 0)");
        changeNothing(MoundVotes::new, -11, "lay(0, 0, 1)");
        changeNothing(MoundVotes::new, -14, "sheet(0, 0, -1)");
    }

    private static void askedWhenBusy() {
        about(1, "what is asked changes nothing");
        String[] calls = {"fault()", "rule(4)", "lord(1, 2)", "borough(1, 0)", "take(0)", "carry(7, 1)", "swings(2)",
            "share(2, 0)", "alone(2, 0)", "cheap(0, 1)", "able(2)", "climb(0)", "small(0)", "line(1)", "bribe(5, 0)",
            "luck(5, 7, 0)", "mean(5, 4, 0)", "owners(0)", "seats(0)", "ask(2, 0)", "drift(-1, 60, 0)", "torn()",
            "count(5)", "end(27)", "forget(2)", "read(0, 0, 5, 1)"};
        for (String call : calls) {
            changeNothing(RefusalTest::busy, made(busy(), call), call);
        }
    }

    private static void changeNothing(Supplier<MoundVotes> state, long answer, String... calls) {
        for (Probe probe : PROBES) {
            String want = probe.answers().apply(state.get());
            for (String call : calls) {
                MoundVotes x = state.get();
                due(call, made(x, call), answer);
                same(probe.name() + " behind " + call, probe.answers().apply(x), want);
            }
        }
    }

    /** Both have had the same fault already, so that fault() too answers alike. */
    private static void refusedTextChangesTheTapeAlone() {
        about(4, "what is refused changes nothing (but THE TAPE, as told)");
        String[] texts = {"wall;", "lord 1;plain 9 3;price 1;5", "lord 1", "tent 9 3 0;price"};
        for (Probe probe : PROBES) {
            MoundVotes y = busy();
            y.end(0);
            String want = probe.answers().apply(y);
            for (String text : texts) {
                MoundVotes x = busy();
                x.end(0);
                tell(x, text);
                due("fault of " + text, x.fault(), 2);
                same(probe.name() + " behind " + text, probe.answers().apply(x), want);
            }
        }
    }

    private static String whatThereIs(MoundVotes x) {
        StringBuilder s = new StringBuilder();
        for (int what = 0; what < 7; what++) {
            s.append(' ').append(x.rule(what));
        }
        for (int what = 0; what < 6; what++) {
            s.append(' ').append(x.count(what));
        }
        for (int l = 0; l < 4; l++) {
            for (int what = 0; what < 3; what++) {
                s.append(' ').append(x.lord(l, what));
            }
        }
        for (int b = 0; b < 6; b++) {
            for (int what = 0; what < 4; what++) {
                s.append(' ').append(x.borough(b, what));
            }
        }
        return s.append(" fault ").append(x.fault()).append(" torn ").append(x.torn()).append(" seen ")
            .append(ownersAndSeats(x)).toString();
    }

    private static String ownersAndSeats(MoundVotes x) {
        StringBuilder s = new StringBuilder();
        for (int b = 0; b < 6; b++) {
            s.append(' ').append(x.owners(b)).append(' ').append(x.seats(b));
        }
        return s.toString();
    }

    /** The cells are seen by what is bought when a sheet is read two by two, of each lane. */
    private static String whatSheetHas(MoundVotes x, int k) {
        x.end(0);
        StringBuilder s = new StringBuilder();
        s.append(tell(x, FREE));
        for (int lane = 0; lane < 3; lane++) {
            for (int f = 0; f < 6; f++) {
                s.append(' ').append(x.read(k, lane, f, 1)).append(' ').append(x.torn());
                for (int b = 0; b < 6; b++) {
                    s.append(' ').append(x.borough(b, 3));
                }
            }
        }
        return s.toString();
    }

    private static String whatIsSeen(MoundVotes x) {
        StringBuilder s = new StringBuilder();
        for (int n = 6; n >= 0; n--) {
            s.append(" forget ").append(x.forget(n)).append(ownersAndSeats(x));
        }
        return s.toString();
    }
}
