import java.util.function.LongBinaryOperator;

/** What passes, what is best, who stays away (promises 15 to 26): each sentence that names a boundary has a test. */
public final class PassEdgeTest extends Checks {
    private static final int[] FAR = {Integer.MIN_VALUE, -1000, -2, -1, 1000, Integer.MAX_VALUE};
    private static final String SIX_EQUAL = "plain 1 1;plain 1 1;plain 1 1;plain 1 1;plain 1 1;plain 1 1;";
    private static final String FOUR_LORDS = "lord 0;lord 0;lord 0;lord 0;";

    public static void main(String[] args) {
        carryIsMoreThanHalf(); carryOfNoLords(); carryOfAllLords(); carryWithoutSeats(); carryBounds();
        swingsOfHalf(); swingsWithoutSeats(); swingsOfOnePlayer(); swingsOfManyPlayers(); swingsOfTheMost();
        swingsBounds();
        shareOfNothing(); shareOfAll(); shareOfEqualOnes(); shareOfOneAmongMany(); shareOfTheMost(); sharesMakeOne();
        shareBounds();
        aloneWithoutLords(); aloneOfTenPlayers(); aloneByOrder(); aloneOfAnOwner(); aloneBounds();
        fractionsInLowestTerms();
        cheapOfOneWhoCarries(); cheapFromHalf(); cheapOfOthersToo(); cheapWhateverGuineas(); cheapLeastSet();
        cheapOfAll(); cheapNone(); cheapBounds();
        ableAtHisLastGuinea(); ableNotHisOwn(); ableOfAllAndNone(); ableBounds();
        climbToTheMost(); climbToTheFirst(); climbNoMoreThanNow(); climbByWhatHeCanBuy(); climbBounds();
        smallFromFirstToLast(); smallOfAsMany(); smallNone(); smallBounds();
        linePartsUnlikeVotes(); lineNone(); lineBounds();
        bribeOfNone(); bribeAtHalf(); bribeOfAllSix(); bribeLeastSet(); bribeNone(); bribeBounds();
        luckAtBothEnds(); luckOfHalf(); luckTogether(); luckOfSix(); luckWithoutSeats(); luckBounds();
        meanAtBothEnds(); meanOfTheMost(); meanBounds();
        finish();
    }

    // ---- promise 15

    private static void carryIsMoreThanHalf() {
        about(15, "SEATS of all BOROUGHS of theirs are more than half of all SEATS");
        for (int his = 0; his <= 3; his++) {
            for (int other = 0; other <= 3; other++) {
                MoundVotes x = of("lord 1;plain 1 " + his + " 0;plain 1 " + other + ";");
                due("seats", x.carry(1, 0), his);
                due(his + " against " + other, x.carry(1, 1), his > other ? 1 : 0);
            }
        }
    }

    private static void carryOfNoLords() {
        about(15, "LORDS (bits): none");
        due("seats", of(MOST).carry(0, 0), 0);
        due("carry", of(MOST).carry(0, 1), 0);
        due("a new object", new MoundVotes().carry(0, 1), 0);
    }

    private static void carryOfAllLords() {
        about(15, "LORDS (bits): all");
        MoundVotes x = of(MOST);
        int[] seats = {0, 3, 3, 6, 3, 6, 6, 9, 9, 12, 12, 15, 12, 15, 15, 18};
        for (int some = 0; some < 16; some++) {
            due("seats of " + some, x.carry(some, 0), seats[some]);
            due("carry of " + some, x.carry(some, 1), some > 8 ? 1 : 0);
        }
        due("all of nobody", of(FOUR_LORDS + SIX_EQUAL).carry(15, 1), 0);
    }

    private static void carryWithoutSeats() {
        about(15, "no SEATS");
        due("carry", of("lord 1;plain 1 0 0;").carry(1, 1), 0);
        due("seats", of("lord 1;plain 1 0 0;").carry(1, 0), 0);
    }

    private static void carryBounds() {
        about(15, "BAD");
        for (int lords = 0; lords <= 4; lords++) {
            MoundVotes x = of(FOUR_LORDS.substring(0, 7 * lords));
            for (int some = -1; some <= 33; some++) {
                boolean fine = some >= 0 && some < 1 << lords;
                due("some " + some + " of " + lords, x.carry(some, 0), fine ? 0 : BAD);
                due("some " + some + " of " + lords, x.carry(some, 1), fine ? 0 : BAD);
            }
        }
        MoundVotes x = of(MOST);
        due("what -1", x.carry(0, -1), BAD);
        due("what 2", x.carry(0, 2), BAD);
        for (int far : FAR) {
            due("some " + far, x.carry(far, 0), BAD);
            due("what " + far, x.carry(0, far), BAD);
        }
    }

    // ---- promise 16

    private static void swingsOfHalf() {
        about(16, "A set of PLAYERS WINS, if SEATS of it are more than half of all");
        due("with one as large", of("lord 1;plain 1 1 0;plain 1 1;").swings(0), 1);
        due("with one less large", of("lord 1;plain 1 2 0;plain 1 1;").swings(0), 2);
        due("with one larger", of("lord 1;plain 1 1 0;plain 1 2;").swings(0), 0);
    }

    private static void swingsWithoutSeats() {
        about(16, "no SEATS");
        due("no boroughs", of("lord 1;").swings(0), 0);
        due("no seats", of("lord 1;plain 1 0 0;plain 1 0;").swings(0), 0);
        due("he has none", of("lord 1;plain 1 0 0;plain 1 1;").swings(0), 0);
    }

    private static void swingsOfOnePlayer() {
        about(16, "sets of all other PLAYERS: there are none");
        due("the empty set", of("lord 1;plain 1 1 0;").swings(0), 1);
    }

    private static void swingsOfManyPlayers() {
        about(16, "PLAYERS: LORDS by order, behind them BOROUGHS of nobody by order, each for itself");
        MoundVotes x = of(FOUR_LORDS + "plain 1 3 3;plain 1 0;plain 1 0;plain 1 0;plain 1 0;plain 1 0;");
        due("players", x.count(5), 9);
        due("all sets of eight others", x.swings(3), 256);
        due("a lord of nothing", x.swings(0), 0);
        MoundVotes y = of(FOUR_LORDS + SIX_EQUAL);
        due("players", y.count(5), 10);
        due("a lord of nothing", y.swings(3), 0);
    }

    private static void swingsOfTheMost() {
        about(16, "do not WIN, and do with a LORD");
        MoundVotes x = of(MOST);
        int[] want = {1, 1, 1, 7};
        for (int l = 0; l < 4; l++) {
            due("swings " + l, x.swings(l), want[l]);
        }
    }

    private static void swingsBounds() {
        about(16, "BAD");
        due("the 4th", of(MOST).swings(3), 7);
        due("the 5th", of(MOST).swings(4), BAD);
        due("no lords", of(SIX_EQUAL).swings(0), BAD);
        due("one more than there are", of(TOWN).swings(3), BAD);
        for (int far : FAR) {
            due("lord " + far, of(MOST).swings(far), BAD);
        }
    }

    // ---- promise 17

    private static void shared(String what, MoundVotes x, int l, long top, long bottom) {
        fraction(what, x.share(l, 0), x.share(l, 1), top, bottom);
    }

    private static void shareOfNothing() {
        about(17, "0 is 0 by 1");
        shared("no boroughs", of("lord 1;"), 0, 0, 1);
        shared("no seats", of("lord 1;plain 1 0 0;"), 0, 0, 1);
        shared("another has all", of("lord 1;lord 1;plain 1 1 1;"), 0, 0, 1);
        shared("nobody has all", of("lord 1;plain 1 1;"), 0, 0, 1);
    }

    private static void shareOfAll() {
        about(17, "SHARE of a PLAYER with whom alone those that came WIN");
        shared("all seats", of("lord 1;plain 1 1 0;"), 0, 1, 1);
        shared("more than half", of("lord 1;plain 1 2 0;plain 1 1;"), 0, 1, 1);
        shared("just half", of("lord 1;plain 1 1 0;plain 1 1;"), 0, 1, 2);
    }

    private static void shareOfEqualOnes() {
        about(17, "all come one behind another, in each order alike");
        StringBuilder text = new StringBuilder(FOUR_LORDS);
        for (int n = 1; n <= 4; n++) {
            text.append("plain 1 1 ").append(n - 1).append(';');
            MoundVotes x = of(text.toString());
            for (int l = 0; l < 4; l++) {
                shared("lord " + l + " of " + n, x, l, l < n ? 1 : 0, l < n ? n : 1);
            }
        }
        MoundVotes six = of(FOUR_LORDS + "plain 1 1 0;plain 1 1;plain 1 1;plain 1 1;plain 1 1;plain 1 1;");
        shared("one of six", six, 0, 1, 6);
    }

    private static void shareOfOneAmongMany() {
        about(17, "PLAYERS: 1 to 9 with a LORD who has all SEATS");
        for (int lords = 1; lords <= 4; lords++) {
            StringBuilder text = new StringBuilder(FOUR_LORDS.substring(0, 7 * lords) + "plain 1 3 0;");
            for (int others = 0; others <= 5; others++) {
                MoundVotes x = of(text.toString());
                due("players", x.count(5), lords + others);
                due("swings", x.swings(0), 1L << lords + others - 1);
                shared("who has all", x, 0, 1, 1);
                shared("the last lord", x, lords - 1, lords == 1 ? 1 : 0, 1);
                text.append("plain 1 0;");
            }
        }
    }

    private static void shareOfTheMost() {
        about(17, "that it is he with whom those that came WIN first");
        MoundVotes x = of(MOST);
        for (int l = 0; l < 4; l++) {
            shared("lord " + l, x, l, l < 3 ? 1 : 3, l < 3 ? 12 : 4);
        }
    }

    private static void sharesMakeOne() {
        about(17, "in each order there is one PLAYER with whom they WIN first");
        String[] texts = {TOWN, MOST, FOUR_LORDS + SIX_EQUAL, "lord 1;plain 1 1 0;plain 1 1;plain 1 3;plain 1 2;"};
        for (String text : texts) {
            MoundVotes x = of(text);
            double sum = 0;
            for (int l = 0; l < x.rule(0); l++) {
                sum += (double) x.share(l, 0) / x.share(l, 1);
            }
            for (int b = 0; b < 6; b++) {
                if (x.borough(b, 3) == NONE) {
                    sum += (double) x.alone(b, 0) / x.alone(b, 1);
                }
            }
            due("a million times the sum of " + text, Math.round(sum * 1000000), 1000000);
        }
    }

    private static void shareBounds() {
        about(17, "BAD");
        MoundVotes x = of(MOST);
        due("the 5th", x.share(4, 0), BAD);
        due("what 2", x.share(0, 2), BAD);
        due("no lords", of(SIX_EQUAL).share(0, 1), BAD);
        due("one more than there are", of(TOWN).share(3, 1), BAD);
        for (int far : FAR) {
            due("lord " + far, x.share(far, 0), BAD);
            due("what " + far, x.share(0, far), BAD);
        }
    }

    // ---- promise 18

    private static void aloneIs(String what, MoundVotes x, int b, long top, long bottom) {
        fraction(what, x.alone(b, 0), x.alone(b, 1), top, bottom);
    }

    private static void aloneWithoutLords() {
        about(18, "SHARE of a BOROUGH of nobody: there are no LORDS");
        for (int b = 0; b < 6; b++) {
            aloneIs("borough " + b, of(SIX_EQUAL), b, 1, 6);
        }
        aloneIs("the only one", of("plain 1 1;"), 0, 1, 1);
        aloneIs("without seats", of("plain 1 0;"), 0, 0, 1);
    }

    private static void aloneOfTenPlayers() {
        about(18, "SHARE of a BOROUGH of nobody: 4 LORDS, 6 BOROUGHS");
        for (int b = 0; b < 6; b++) {
            aloneIs("borough " + b, of(FOUR_LORDS + SIX_EQUAL), b, 1, 6);
            MoundVotes x = of(FOUR_LORDS + SIX_EQUAL);
            for (int other = 0; other < 6; other++) {
                x.alter(other, 2, other == b ? 1 : 0);
            }
            due("players", x.count(5), 10);
            aloneIs("the only one with a seat", x, b, 1, 1);
            aloneIs("one without", x, (b + 1) % 6, 0, 1);
        }
    }

    private static void aloneByOrder() {
        about(18, "behind them BOROUGHS of nobody by order");
        MoundVotes x = of("lord 1;plain 1 0 0;plain 1 1;plain 1 0 0;plain 1 3;plain 1 0 0;plain 1 0;");
        aloneIs("the first", x, 1, 0, 1);
        aloneIs("the second", x, 3, 1, 1);
        aloneIs("the last", x, 5, 0, 1);
    }

    private static void aloneOfAnOwner() {
        about(18, "STATE: it has an OWNER");
        for (int l = 0; l < 4; l++) {
            MoundVotes x = of(FOUR_LORDS + "plain 1 1;");
            x.give(0, l);
            due("of lord " + l, x.alone(0, 0), STATE);
            due("of lord " + l, x.alone(0, 1), STATE);
            x.give(0, NONE);
            aloneIs("of nobody", x, 0, 1, 1);
        }
    }

    private static void aloneBounds() {
        about(18, "BAD");
        MoundVotes x = of("lord 1;plain 1 1 0;plain 1 3;");
        due("the last", x.alone(1, 0), 1);
        due("one more", x.alone(2, 0), BAD);
        due("what 2", x.alone(1, 2), BAD);
        due("BAD ahead of STATE", x.alone(0, 2), BAD);
        due("BAD ahead of STATE", x.alone(0, -1), BAD);
        due("no boroughs", new MoundVotes().alone(0, 0), BAD);
        for (int far : FAR) {
            due("borough " + far, x.alone(far, 0), BAD);
            due("what " + far, x.alone(1, far), BAD);
        }
    }

    private static void fractionsInLowestTerms() {
        about(17, "Fractions are in lowest terms, the denominator above 0 (0 is 0 by 1)");
        for (int seed = 0; seed < 200; seed++) {
            MoundVotes x = of("lord 1;lord 1;plain 1 1 0;plain 1 2 1;plain 1 3;plain 1 1;");
            for (int b = 0; b < 4; b++) {
                x.alter(b, 2, seed >> b & 3);
            }
            lowest("share", (l, what) -> x.share((int) l, (int) what), seed % 2);
            lowest("alone", (b, what) -> x.alone((int) b, (int) what), 2 + seed % 2);
            lowest("luck", (v, what) -> x.luck((int) v, 1, (int) what), seed % 11);
            lowest("mean", (v, what) -> x.mean((int) v, 3, (int) what), seed % 11);
        }
    }

    private static void lowest(String what, LongBinaryOperator call, int first) {
        long top = call.applyAsLong(first, 0);
        long bottom = call.applyAsLong(first, 1);
        due(what + " is not below 0", Math.min(top, 0), 0);
        due(what + " has a denominator above 0", Math.max(Math.min(bottom, 1), 0), 1);
        long common = 0;
        for (long d = Math.max(bottom, 1); d > 1 && common == 0; d--) {
            common = bottom % d == 0 && top % d == 0 ? d : 0;
        }
        due(what + " " + top + " by " + bottom + " has a common divisor", common, 0);
    }

    // ---- promise 19

    private static void cheapIs(String what, MoundVotes x, int l, int cost, int set) {
        due(what + ": cost", x.cheap(l, 0), cost);
        due(what + ": set", x.cheap(l, 1), set);
    }

    private static void cheapOfOneWhoCarries() {
        about(19, "at least to CARRY by himself: he does");
        cheapIs("he has all", of("lord 0;plain 1 1 0;"), 0, 0, 0);
        cheapIs("he has more than half", of("lord 0;plain 1 2 0;plain 1 1;"), 0, 0, 0);
    }

    private static void cheapFromHalf() {
        about(19, "CARRY: more than half");
        cheapIs("just half", of("lord 0;plain 1 1 0;plain 2 1;"), 0, 6, 2);
        cheapIs("to more than half", of("lord 0;plain 1 1;plain 1 1;plain 1 1;plain 1 1;"), 0, 9, 7);
    }

    private static void cheapOfOthersToo() {
        about(19, "What a LORD would have to buy at least");
        cheapIs("of another lord", of("lord 0;lord 0;plain 1 1 0;plain 2 1 1;"), 0, 6, 2);
        cheapIs("the cheaper one", of("lord 0;lord 0;plain 1 1 0;plain 2 1 1;plain 1 1;"), 0, 3, 4);
        cheapIs("not those without seats", of("lord 0;plain 1 0;plain 9 1;"), 0, 27, 2);
    }

    private static void cheapWhateverGuineas() {
        about(19, "whatever GUINEAS he has");
        MoundVotes x = of("lord 0;lord 99;twice 9 3 1;price 9;");
        cheapIs("with none", x, 0, 126, 1);
        x.purse(0, 99);
        cheapIs("with the most", x, 0, 126, 1);
    }

    private static void cheapLeastSet() {
        about(19, "of several the least set (bits)");
        cheapIs("two or one", of("lord 0;plain 1 1 0;plain 1 1;plain 1 1;plain 2 2;"), 0, 6, 6);
        cheapIs("one of two", of("lord 0;plain 1 1;plain 1 1;plain 2 2;"), 0, 9, 5);
        cheapIs("for nothing", of("lord 0;plain 1 1;plain 1 1;plain 1 1;price 0;"), 0, 0, 3);
        cheapIs("for nothing, the last alone", of("lord 0;plain 1 0;plain 1 0;plain 1 1;price 0;"), 0, 0, 4);
    }

    private static void cheapOfAll() {
        about(19, "BOROUGHS (6 at most)");
        cheapIs("the first", of(MOST), 0, 378, 14);
        cheapIs("the last", of(MOST), 3, 126, 1);
        cheapIs("all of one", of("lord 0;plain 9 1;price 9;"), 0, 81, 1);
        cheapIs("all of two", of("lord 0;plain 1 1;plain 1 1;"), 0, 6, 3);
        cheapIs("four of six", of("lord 0;" + SIX_EQUAL), 0, 12, 15);
    }

    private static void cheapNone() {
        about(19, "NONE: by all he does not");
        cheapIs("no boroughs", of("lord 9;"), 0, NONE, NONE);
        cheapIs("no seats", of("lord 9;plain 1 0;plain 1 0 0;"), 0, NONE, NONE);
    }

    private static void cheapBounds() {
        about(19, "BAD");
        MoundVotes x = of("lord 9;lord 9;plain 1 1;");
        due("the last", x.cheap(1, 0), 3);
        due("one more", x.cheap(2, 0), BAD);
        due("what 2", x.cheap(0, 2), BAD);
        due("no lords", of("plain 1 1;").cheap(0, 0), BAD);
        due("BAD ahead of NONE", of("lord 9;").cheap(0, 2), BAD);
        due("BAD ahead of NONE", of("lord 9;").cheap(1, 0), BAD);
        for (int far : FAR) {
            due("lord " + far, x.cheap(far, 0), BAD);
            due("what " + far, x.cheap(0, far), BAD);
        }
    }

    // ---- promise 20

    private static void ableAtHisLastGuinea() {
        about(20, "BOROUGHS that a LORD can buy now");
        MoundVotes x = of("lord 0;lord 0;plain 1 1;plain 2 0 1;plain 3 1;");
        int[] guineas = {0, 2, 3, 5, 6, 8, 9, 99};
        int[] able = {0, 0, 1, 1, 3, 3, 7, 7};
        for (int i = 0; i < guineas.length; i++) {
            x.purse(0, guineas[i]);
            due("with " + guineas[i], x.able(0), able[i]);
        }
    }

    private static void ableNotHisOwn() {
        about(20, "can buy now: what is his he can not");
        MoundVotes x = of("lord 99;plain 1 1 0;plain 1 1;");
        due("the other", x.able(0), 2);
        x.give(1, 0);
        due("none", x.able(0), 0);
    }

    private static void ableOfAllAndNone() {
        about(20, "(bits): none, all");
        due("no boroughs", of("lord 99;").able(0), 0);
        MoundVotes x = of("lord 0;" + SIX_EQUAL + "price 0;");
        due("all for nothing", x.able(0), 63);
        x.price(1);
        due("none for one", x.able(0), 0);
        MoundVotes y = of(MOST);
        due("126 guineas each", y.able(0), 0);
        y.price(7);
        due("98 guineas each", y.able(0), 62);
    }

    private static void ableBounds() {
        about(20, "BAD");
        due("the last", of("lord 9;lord 9;plain 1 1;").able(1), 1);
        due("one more", of("lord 9;lord 9;plain 1 1;").able(2), BAD);
        due("no lords", of("plain 1 1;").able(0), BAD);
        for (int far : FAR) {
            due("lord " + far, of(MOST).able(far), BAD);
        }
    }

    // ---- promise 21

    private static void climbToTheMost() {
        about(21, "The BOROUGH by which his SHARE is most");
        due("the larger one", of("lord 99;plain 1 1;plain 1 3;").climb(0), 1);
        due("of another lord", of("lord 99;lord 0;plain 1 1;plain 1 3 1;").climb(0), 1);
        due("the last of six", of("lord 99;plain 1 0;plain 1 0;plain 1 0;plain 1 0;plain 1 0;plain 1 1;").climb(0), 5);
    }

    private static void climbToTheFirst() {
        about(21, "of several the first");
        due("of six", of("lord 99;" + SIX_EQUAL).climb(0), 0);
        due("of the two best", of("lord 99;plain 1 0;plain 1 3;plain 1 3;").climb(0), 1);
    }

    private static void climbNoMoreThanNow() {
        about(21, "more than now; NONE: by none");
        due("he has all", of("lord 99;plain 1 3 0;plain 1 1;").climb(0), NONE);
        due("past one without seats", of("lord 99;plain 1 1 0;plain 1 0;plain 1 1;").climb(0), 2);
        due("not by one without seats", of("lord 3;plain 1 1 0;plain 1 0;plain 9 1;").climb(0), NONE);
        due("one that changes nothing", of("lord 3;lord 9;plain 1 1;plain 9 3 1;").climb(0), NONE);
        due("no boroughs", of("lord 99;").climb(0), NONE);
    }

    private static void climbByWhatHeCanBuy() {
        about(21, "that a LORD can buy now");
        String text = "lord 0;plain 1 1;plain 3 3;plain 1 1;";
        int[] guineas = {2, 3, 8, 9};
        int[] want = {NONE, NONE, NONE, 1};
        for (int i = 0; i < guineas.length; i++) {
            MoundVotes x = of(text);
            x.purse(0, guineas[i]);
            due("with " + guineas[i], x.climb(0), want[i]);
        }
        MoundVotes y = of("lord 2;plain 1 1;plain 1 1;plain 1 1;");
        due("one guinea less", y.climb(0), NONE);
        y.purse(0, 3);
        due("his last guinea", y.climb(0), 0);
        due("nothing is bought", y.rule(5), 7);
    }

    private static void climbBounds() {
        about(21, "BAD");
        due("the last", of("lord 9;lord 9;plain 1 1;").climb(1), 0);
        due("one more", of("lord 9;lord 9;plain 1 1;").climb(2), BAD);
        due("no lords", of("plain 1 1;").climb(0), BAD);
        for (int far : FAR) {
            due("lord " + far, of(MOST).climb(far), BAD);
        }
    }

    // ---- promise 22

    private static void smallFromFirstToLast() {
        about(22, "The i-th (from 0) by SMALLNESS");
        MoundVotes x = of("plain 6 1;plain 5 1;plain 4 1;plain 3 1;plain 2 1;plain 1 1;");
        for (int i = 0; i < 6; i++) {
            due("small " + i, x.small(i), 5 - i);
        }
    }

    private static void smallOfAsMany() {
        about(22, "by VOTES, of as many by order");
        MoundVotes x = of(MOST);
        for (int i = 0; i < 6; i++) {
            due("small " + i, x.small(i), i);
        }
        // VOTES are 5, 5, 4, 5, by different houses.
        MoundVotes y = of("mound 9 1;plain 5 3;plain 4 1;twice 3 2;");
        int[] want = {2, 0, 1, 3, NONE, NONE};
        for (int i = 0; i < 6; i++) {
            due("small " + i, y.small(i), want[i]);
        }
    }

    private static void smallNone() {
        about(22, "NONE: there are not so many (BOROUGHS with SEATS)");
        due("no boroughs", new MoundVotes().small(0), NONE);
        due("no seats", of("plain 1 0;").small(0), NONE);
        MoundVotes x = of("plain 1 0;plain 9 1;");
        due("the first", x.small(0), 1);
        due("the second", x.small(1), NONE);
        due("the sixth", x.small(5), NONE);
    }

    private static void smallBounds() {
        about(22, "BAD (i is not 0 to 5)");
        due("5", of(MOST).small(5), 5);
        due("6", of(MOST).small(6), BAD);
        due("BAD ahead of NONE", new MoundVotes().small(6), BAD);
        due("BAD ahead of NONE", new MoundVotes().small(-1), BAD);
        for (int far : FAR) {
            due("small " + far, of(MOST).small(far), BAD);
        }
    }

    // ---- promise 23

    private static void linePartsUnlikeVotes() {
        about(23, "Whether a line behind the first n (1 to 5) parts unlike VOTES (1, 0)");
        MoundVotes unlike = of("plain 6 1;plain 5 1;plain 4 1;plain 3 1;plain 2 1;plain 1 1;");
        MoundVotes like = of(MOST);
        MoundVotes one = of("plain 1 1;plain 2 1;plain 2 1;plain 2 1;plain 2 1;plain 3 1;");
        for (int n = 1; n <= 5; n++) {
            due("unlike " + n, unlike.line(n), 1);
            due("like " + n, like.line(n), 0);
            due("at both ends " + n, one.line(n), n == 1 || n == 5 ? 1 : 0);
        }
        due("unlike houses, like votes", of("plain 5 1;mound 9 1;").line(1), 0);
        due("like houses, unlike votes", of("plain 5 1;mound 5 1;").line(1), 1);
    }

    private static void lineNone() {
        about(23, "NONE: there are not more than n");
        due("no boroughs", new MoundVotes().line(1), NONE);
        for (int with = 1; with <= 5; with++) {
            MoundVotes x = of(MOST);
            for (int b = with; b < 6; b++) {
                x.alter(b, 2, 0);
            }
            for (int n = 1; n <= 5; n++) {
                due("line " + n + " of " + with, x.line(n), n < with ? 0 : NONE);
            }
        }
    }

    private static void lineBounds() {
        about(23, "BAD");
        due("0", of(MOST).line(0), BAD);
        due("6", of(MOST).line(6), BAD);
        due("BAD ahead of NONE", new MoundVotes().line(0), BAD);
        due("BAD ahead of NONE", new MoundVotes().line(6), BAD);
        for (int far : FAR) {
            due("line " + far, of(MOST).line(far), BAD);
        }
    }

    // ---- promise 24

    private static void bribeIs(String what, MoundVotes x, int n, int cost, int set) {
        due(what + ": cost", x.bribe(n, 0), cost);
        due(what + ": set", x.bribe(n, 1), set);
    }

    private static void bribeOfNone() {
        about(24, "A reform of the first n (0 to 6): none");
        bribeIs("all are for it", of(MOST), 0, 0, 0);
        bribeIs("one seat", of("plain 1 1;"), 0, 0, 0);
    }

    private static void bribeAtHalf() {
        about(24, "so that more than half of all SEATS are");
        bribeIs("12 of 18 are for it", of(MOST), 2, 0, 0);
        bribeIs("9 of 18 are for it", of(MOST), 3, 126, 1);
        bribeIs("just half", of("plain 1 1;plain 2 1;"), 1, 3, 1);
        bribeIs("more than half", of("plain 1 1;plain 2 2;"), 1, 0, 0);
        bribeIs("one less than half", of("plain 1 2;plain 2 1;"), 1, 3, 1);
    }

    private static void bribeOfAllSix() {
        about(24, "A reform of the first n (0 to 6): all");
        bribeIs("four of six", of(MOST), 6, 504, 15);
        bribeIs("five of six: two more", of(MOST), 5, 378, 7);
        bribeIs("all of one", of("plain 1 1;"), 1, 3, 1);
        bribeIs("all of two", of("plain 1 1;plain 1 1;"), 2, 6, 3);
    }

    private static void bribeLeastSet() {
        about(24, "of several the least set of those that are paid (bits)");
        MoundVotes x = of(MOST);
        x.price(0);
        bribeIs("for nothing", x, 3, 0, 1);
        bribeIs("for nothing, all", x, 6, 0, 15);
        bribeIs("one of two as dear", of("plain 1 1;plain 1 1;plain 1 1;"), 2, 3, 1);
        bribeIs("two or one", of("plain 1 1;plain 1 1;plain 2 2;"), 3, 9, 5);
    }

    private static void bribeNone() {
        about(24, "NONE: there are not so many; by all there are not more than half (there are no SEATS)");
        bribeIs("no boroughs", new MoundVotes(), 0, NONE, NONE);
        bribeIs("no seats", of("plain 1 0;plain 1 0;"), 0, NONE, NONE);
        bribeIs("one of none", of("plain 1 0;"), 1, NONE, NONE);
        bribeIs("two of one", of("plain 1 1;plain 1 0;"), 2, NONE, NONE);
        bribeIs("six of five", of(TOWN), 6, NONE, NONE);
    }

    private static void bribeBounds() {
        about(24, "BAD");
        MoundVotes x = of(MOST);
        due("7", x.bribe(7, 0), BAD);
        due("what 2", x.bribe(0, 2), BAD);
        due("BAD ahead of NONE", new MoundVotes().bribe(7, 0), BAD);
        due("BAD ahead of NONE", new MoundVotes().bribe(0, 2), BAD);
        due("BAD ahead of NONE", new MoundVotes().bribe(6, -1), BAD);
        for (int far : FAR) {
            due("bribe " + far, x.bribe(far, 0), BAD);
            due("what " + far, x.bribe(0, far), BAD);
        }
    }

    // ---- promise 25

    private static void luckIs(String what, MoundVotes x, int v, int some, long top, long bottom) {
        fraction(what, x.luck(v, some, 0), x.luck(v, some, 1), top, bottom);
    }

    private static void luckAtBothEnds() {
        about(25, "by v out of ten (0 to 10)");
        MoundVotes x = of("lord 0;plain 1 1 0;");
        for (int v = 0; v <= 10; v++) {
            int common = v == 0 || v == 10 ? 10 : v == 5 ? 5 : v % 2 == 0 ? 2 : 1;
            luckIs("v " + v, x, v, 1, (10 - v) / common, 10 / common);
        }
    }

    private static void luckOfHalf() {
        about(25, "more than half of all that are there");
        luckIs("one against one", of("lord 0;plain 1 1 0;plain 1 1;"), 5, 1, 1, 4);
        luckIs("two against one", of("lord 0;plain 1 2 0;plain 1 1;"), 5, 1, 1, 2);
        luckIs("nobody is there", of("lord 0;plain 1 2 0;plain 1 1;"), 10, 1, 0, 1);
        luckIs("just half, all there", of("lord 0;plain 1 2 0;plain 1 2;"), 0, 1, 0, 1);
    }

    private static void luckTogether() {
        about(25, "Those of each BOROUGH stay away, by themselves");
        luckIs("three seats of one", of("lord 0;plain 1 3 0;"), 5, 1, 1, 2);
        luckIs("three of one each", of("lord 0;plain 1 1 0;plain 1 1 0;plain 1 1 0;"), 5, 1, 7, 8);
        luckIs("those without seats count for nothing", of("lord 0;plain 1 1 0;plain 1 0;"), 3, 1, 7, 10);
    }

    private static void luckOfSix() {
        about(25, "BOROUGHS (6 at most)");
        MoundVotes x = of("lord 0;" + SIX_EQUAL);
        for (int b = 0; b < 6; b++) {
            x.give(b, 0);
        }
        luckIs("none away", x, 0, 1, 1, 1);
        luckIs("one of ten", x, 1, 1, 999999, 1000000);
        luckIs("half", x, 5, 1, 63, 64);
        luckIs("nine of ten", x, 9, 1, 468559, 1000000);
        luckIs("all away", x, 10, 1, 0, 1);
    }

    private static void luckWithoutSeats() {
        about(25, "no SEATS, no LORDS");
        luckIs("a new object", new MoundVotes(), 5, 0, 0, 1);
        luckIs("no seats", of("lord 0;plain 1 0 0;"), 5, 1, 0, 1);
        luckIs("no lords asked", of("lord 0;plain 1 1 0;"), 5, 0, 0, 1);
        luckIs("all of nobody", of("lord 0;plain 1 1;"), 5, 1, 0, 1);
    }

    private static void luckBounds() {
        about(25, "BAD");
        MoundVotes x = of(TOWN);
        int[][] bad = {{-1, 0, 0}, {11, 0, 0}, {0, 8, 0}, {0, -1, 0}, {0, 0, 2}, {0, 0, -1}};
        for (int[] a : bad) {
            due("luck " + a[0] + " " + a[1] + " " + a[2], x.luck(a[0], a[1], a[2]), BAD);
        }
        due("the last of each", x.luck(10, 7, 1), 1);
        due("no lords", new MoundVotes().luck(0, 1, 0), BAD);
        due("the 4th", of(MOST).luck(0, 15, 0), 1);
        due("the 5th", of(MOST).luck(0, 16, 0), BAD);
        for (int far : FAR) {
            due("v " + far, x.luck(far, 0, 0), BAD);
            due("some " + far, x.luck(0, far, 0), BAD);
            due("what " + far, x.luck(0, 0, far), BAD);
        }
    }

    // ---- promise 26

    private static void meanIs(String what, MoundVotes x, int v, int some, long top, long bottom) {
        fraction(what, x.mean(v, some, 0), x.mean(v, some, 1), top, bottom);
    }

    private static void meanAtBothEnds() {
        about(26, "Likewise (0 to 10), the mean of SEATS of LORDS (bits) that are there");
        MoundVotes x = of("lord 0;plain 1 3 0;plain 1 3;");
        meanIs("none away", x, 0, 1, 3, 1);
        meanIs("one of ten", x, 1, 1, 27, 10);
        meanIs("half", x, 5, 1, 3, 2);
        meanIs("nine of ten", x, 9, 1, 3, 10);
        meanIs("all away", x, 10, 1, 0, 1);
        meanIs("no lords asked", x, 5, 0, 0, 1);
    }

    private static void meanOfTheMost() {
        about(26, "all LORDS, all SEATS; none");
        meanIs("none away", of(MOST), 0, 15, 18, 1);
        meanIs("one of ten", of(MOST), 1, 15, 81, 5);
        meanIs("nine of ten", of(MOST), 9, 15, 9, 5);
        meanIs("a new object", new MoundVotes(), 5, 0, 0, 1);
        meanIs("no seats", of("lord 0;plain 1 0 0;"), 5, 1, 0, 1);
        meanIs("all of nobody", of("lord 0;plain 1 1;"), 5, 1, 0, 1);
    }

    private static void meanBounds() {
        about(26, "BAD");
        MoundVotes x = of(TOWN);
        int[][] bad = {{-1, 0, 0}, {11, 0, 0}, {0, 8, 0}, {0, -1, 0}, {0, 0, 2}, {0, 0, -1}};
        for (int[] a : bad) {
            due("mean " + a[0] + " " + a[1] + " " + a[2], x.mean(a[0], a[1], a[2]), BAD);
        }
        due("the last of each", x.mean(10, 7, 1), 1);
        due("no lords", new MoundVotes().mean(0, 1, 0), BAD);
        due("the 5th", of(MOST).mean(0, 16, 0), BAD);
        for (int far : FAR) {
            due("v " + far, x.mean(far, 0, 0), BAD);
            due("some " + far, x.mean(0, far, 0), BAD);
            due("what " + far, x.mean(0, 0, far), BAD);
        }
    }
}
