/** Sales by a seed, images, sheets (promises 32 to 39): each sentence that names a boundary has a test of its own. */
public final class SheetEdgeTest extends Checks {
    private static final int LEAST = Integer.MIN_VALUE;
    private static final int GREATEST = Integer.MAX_VALUE;
    private static final int[] FAR = {LEAST, -1000, -2, -1, 1000, GREATEST};
    /** Two lords who can buy three boroughs of nobody from one another for nothing. */
    private static final String FREE = "lord 9;lord 9;plain 1 1;plain 1 1;plain 1 1;price 0;";

    public static void main(String[] args) {
        driftBySeeds(); driftSeedWrapsAround(); driftOfOneLordAndOneBorough(); driftOnceToSixtyTimes(); driftByItself();
        driftWhereNoneCan(); driftState(); driftBounds();
        keepTellsWhetherThereWasOne(); keepOfNothing(); keepIsACopy(); keepBounds();
        backToAll(); backAgain(); backLeavesAllElse(); backState(); backBounds();
        sheetOfNoneToForty(); sheetIsNew(); sheetSizeBelowZero(); sheetBounds(); sheetsAreApart();
        layNull(); layIndex(); layBounds(); layBytes(); layShorts(); layInts();
        readNoneToTwenty(); readFromFirstToLastCell(); readBeyondTheCells(); readIsAsByBuy(); readOfNothing();
        readOfAnotherLane(); readBounds(); readRefusedInEachWay(); readRefusedFirstToLast(); readTheFirstMet();
        tornOfTheLatestThatEnded(); tornIsZeroThen(); tornOfNoTimes();
        countOfNothing(); countOfTheMost(); countOfSheetZero(); countBounds();
        finish();
    }

    // ---- promise 32

    /** Answers that were reckoned outside of Java, in numbers without bounds. */
    private static void driftBySeeds() {
        about(32, "n times by a seed: how often he can (what 0), GUINEAS of all in the end (1)");
        int[] seeds = {0, 1, -1, GREATEST, LEAST, 12345678, -987654321};
        int[] times = {1, 2, 59, 60};
        int[][] sales = {{0, 0, 37, 37}, {1, 2, 38, 38}, {1, 2, 46, 46}, {1, 2, 46, 46}, {0, 0, 37, 37}, {0, 1, 29, 30},
            {1, 2, 37, 38}};
        int[][] guineas = {{142, 142, 129, 129}, {140, 140, 129, 129}, {142, 142, 136, 136}, {142, 142, 136, 136},
            {142, 142, 129, 129}, {142, 135, 129, 129}, {138, 138, 129, 129}};
        MoundVotes x = of(TOWN);
        for (int i = 0; i < seeds.length; i++) {
            for (int j = 0; j < times.length; j++) {
                due("sales " + seeds[i] + " " + times[j], x.drift(seeds[i], times[j], 0), sales[i][j]);
                due("guineas " + seeds[i] + " " + times[j], x.drift(seeds[i], times[j], 1), guineas[i][j]);
            }
        }
    }

    private static void driftSeedWrapsAround() {
        about(32, "the seed becomes seed times 1103515245 and 12345; bits 16 to 30 of it");
        MoundVotes x = of(TOWN);
        int[] seeds = {0, 1, 5, -7, 65535, 65536, 1 << 30, GREATEST};
        for (int seed : seeds) {
            for (int what = 0; what < 2; what++) {
                due("bit 31 of " + seed + " is never drawn", x.drift(seed ^ LEAST, 60, what), x.drift(seed, 60, what));
            }
        }
        int[] sales = {46, 37, 47, 47, 46, 44, 45};
        int[] of = {0, 1, -1, GREATEST, LEAST, 12345678, -987654321};
        MoundVotes y = of(MOST);
        y.price(0);
        for (int i = 0; i < of.length; i++) {
            due("four lords, six boroughs, seed " + of[i], y.drift(of[i], 60, 0), sales[i]);
        }
    }

    private static void driftOfOneLordAndOneBorough() {
        about(32, "modulo LORDS is one, then modulo BOROUGHS what he buys, if he can");
        MoundVotes x = of("lord 9;plain 2 1;");
        int[] seeds = {0, 1, -1, GREATEST, LEAST};
        for (int seed : seeds) {
            due("he buys it once", x.drift(seed, 60, 0), 1);
            due("he has left", x.drift(seed, 60, 1), 3);
            due("at once", x.drift(seed, 1, 0), 1);
        }
    }

    private static void driftOnceToSixtyTimes() {
        about(32, "n times (1 to 60)");
        MoundVotes x = of("lord 9;plain 2 1;");
        for (int n = -2; n <= 63; n++) {
            due("n " + n, x.drift(1, n, 0), n >= 1 && n <= 60 ? 1 : BAD);
        }
    }

    private static void driftByItself() {
        about(32, "By itself");
        MoundVotes x = of(TOWN);
        due("46 sales", x.drift(-1, 60, 0), 46);
        due("guineas stay", x.rule(4), 142);
        int[] owner = {0, 1, NONE, 2, NONE, 0};
        for (int b = 0; b < 6; b++) {
            due("owner " + b, x.borough(b, 3), owner[b]);
        }
        due("the same again", x.drift(-1, 60, 0), 46);
    }

    private static void driftWhereNoneCan() {
        about(32, "if he can");
        due("none can", of(MOST).drift(1, 60, 0), 0);
        due("guineas", of(MOST).drift(1, 60, 1), 396);
        due("it is his", of("lord 9;plain 1 1 0;").drift(1, 60, 0), 0);
    }

    private static void driftState() {
        about(32, "STATE: there are no LORDS or no BOROUGHS");
        due("neither", new MoundVotes().drift(1, 1, 0), STATE);
        due("no lords", of("plain 1 1;").drift(1, 60, 1), STATE);
        due("no boroughs", of("lord 1;").drift(1, 60, 1), STATE);
    }

    private static void driftBounds() {
        about(32, "BAD");
        MoundVotes x = of(TOWN);
        due("what 2", x.drift(1, 1, 2), BAD);
        due("BAD ahead of STATE", new MoundVotes().drift(1, 0, 0), BAD);
        due("BAD ahead of STATE", new MoundVotes().drift(1, 61, 0), BAD);
        due("BAD ahead of STATE", new MoundVotes().drift(1, 1, 2), BAD);
        for (int far : FAR) {
            due("n " + far, x.drift(1, far, 0), BAD);
            due("what " + far, x.drift(1, 1, far), BAD);
        }
    }

    // ---- promise 33

    private static void keepTellsWhetherThereWasOne() {
        about(33, "whether there was one (1, 0)");
        for (int k = 0; k < 2; k++) {
            MoundVotes x = of(TOWN);
            due("the first", x.keep(k), 0);
            due("images", x.count(1), 1);
            due("the second", x.keep(k), 1);
            due("images", x.count(1), 1);
            due("the other", x.keep(1 - k), 0);
            due("images", x.count(1), 2);
        }
    }

    private static void keepOfNothing() {
        about(33, "no LORDS, no BOROUGHS");
        MoundVotes x = new MoundVotes();
        due("keep", x.keep(1), 0);
        x.price(9);
        due("back", x.back(1), 0);
        due("price", x.rule(2), 3);
        due("lords", x.rule(0), 0);
    }

    private static void keepIsACopy() {
        about(33, "IMAGE k (0, 1) is LORDS, BOROUGHS (all of them), PRICE");
        MoundVotes x = of(TOWN);
        x.keep(0);
        x.price(5);
        x.keep(1);
        x.price(7);
        due("back to the first", x.back(0), 142);
        due("its price", x.rule(2), 2);
        due("back to the second", x.back(1), 142);
        due("its price", x.rule(2), 5);
        x.keep(0);
        x.price(1);
        x.back(0);
        due("the first is the newer one", x.rule(2), 5);
    }

    private static void keepBounds() {
        about(33, "BAD");
        MoundVotes x = of(TOWN);
        due("2", x.keep(2), BAD);
        for (int far : FAR) {
            due("keep " + far, x.keep(far), BAD);
        }
        due("images", x.count(1), 0);
    }

    // ---- promise 34

    private static void backToAll() {
        about(34, "All is as IMAGE k: all GUINEAS");
        for (int k = 0; k < 2; k++) {
            MoundVotes x = of(MOST);
            x.keep(k);
            x.price(0);
            for (int l = 0; l < 4; l++) {
                x.purse(l, l);
            }
            for (int b = 0; b < 6; b++) {
                x.alter(b, 0, 0);
                x.alter(b, 1, 1);
                x.alter(b, 2, 0);
                x.give(b, NONE);
            }
            due("back", x.back(k), 396);
            int[] rules = {4, 6, 9, 18, 396, 0, 0};
            for (int what = 0; what < rules.length; what++) {
                due("rule " + what, x.rule(what), rules[what]);
            }
            for (int l = 0; l < 4; l++) {
                due("guineas " + l, x.lord(l, 0), 99);
            }
            for (int b = 0; b < 6; b++) {
                int[] borough = {3, 9, 3, Math.min(b, 3), 14, 126};
                for (int what = 0; what < borough.length; what++) {
                    due("borough " + b + " " + what, x.borough(b, what), borough[what]);
                }
            }
        }
    }

    private static void backAgain() {
        about(34, "All is as IMAGE k");
        MoundVotes x = of(TOWN);
        x.keep(0);
        for (int i = 0; i < 3; i++) {
            x.purse(0, i);
            due("back", x.back(0), 142);
            due("guineas", x.lord(0, 0), 40);
        }
        due("the image stays", x.count(1), 1);
    }

    private static void backLeavesAllElse() {
        about(34, "IMAGE k is LORDS, BOROUGHS, PRICE: no more");
        MoundVotes x = of(TOWN);
        x.keep(0);
        x.see(5, true);
        x.sheet(0, 1, 7);
        x.feed('a');
        x.keep(1);
        x.back(0);
        int[] counts = {1, 2, 1, 7};
        for (int what = 0; what < counts.length; what++) {
            due("count " + what, x.count(what), counts[what]);
        }
        due("what was seen", x.owners(2), 5);
    }

    private static void backState() {
        about(34, "STATE: there is none");
        MoundVotes x = of(TOWN);
        due("0", x.back(0), STATE);
        due("1", x.back(1), STATE);
        x.keep(0);
        due("1 still", x.back(1), STATE);
        x.price(9);
        due("1 still", x.back(1), STATE);
        due("nothing has changed", x.rule(2), 9);
    }

    private static void backBounds() {
        about(34, "BAD");
        MoundVotes x = of(TOWN);
        due("BAD ahead of STATE", x.back(2), BAD);
        x.keep(0);
        x.keep(1);
        x.price(9);
        due("2", x.back(2), BAD);
        for (int far : FAR) {
            due("back " + far, x.back(far), BAD);
        }
        due("nothing has changed", x.rule(2), 9);
    }

    // ---- promise 35

    private static void sheetOfNoneToForty() {
        about(35, "with 0 to 40 CELLS: 1. BAD: also n above 40");
        for (int lane = 0; lane < 3; lane++) {
            for (int n = 0; n <= 42; n++) {
                MoundVotes x = new MoundVotes();
                due("sheet of " + n, x.sheet(0, lane, n), n <= 40 ? 1 : BAD);
                due("cells", x.count(3), n <= 40 ? n : NONE);
                due("the last cell", x.lay(0, n - 1, 0), n > 40 ? -11 : n == 0 ? -12 : 1);
                due("one more", x.lay(0, n, 0), n > 40 ? -11 : -12);
            }
        }
        due("far above", new MoundVotes().sheet(0, 0, GREATEST), BAD);
    }

    private static void sheetIsNew() {
        about(35, "a new row of CELLS 0");
        MoundVotes x = of(FREE);
        x.sheet(1, 0, 40);
        for (int i = 0; i < 40; i++) {
            x.lay(1, i, 1);
        }
        x.sheet(1, 0, 40);
        for (int f = 0; f < 40; f += 2) {
            due("lord 0 buys borough 0 at " + f, x.read(1, 0, f, 1), 1);
            due("owner", x.give(0, NONE), 0);
        }
        due("another lane", x.sheet(1, 2, 2), 1);
        due("of the old lane", x.read(1, 0, 0, 1), 0);
        due("torn", x.torn(), 3);
        due("of the new lane", x.read(1, 2, 0, 1), 1);
    }

    private static void sheetSizeBelowZero() {
        about(35, "-10 - 4 (SIZE: below 0)");
        int[] below = {-1, -2, -1000, LEAST};
        MoundVotes x = new MoundVotes();
        for (int n : below) {
            due("on nothing " + n, x.sheet(0, 0, n), -14);
            due("still nothing", x.count(3), NONE);
        }
        x.sheet(0, 0, 3);
        for (int n : below) {
            due("on cells " + n, x.sheet(0, 1, n), -14);
            due("still three", x.count(3), 3);
        }
        due("the lane stays", x.read(0, 0, 3, 1), 0);
        due("index, not cast", x.torn(), 2);
        due("BAD ahead of SIZE", x.sheet(4, 0, -1), BAD);
        due("BAD ahead of SIZE", x.sheet(-1, 0, -1), BAD);
        due("BAD ahead of SIZE", x.sheet(0, 3, -1), BAD);
        due("BAD ahead of SIZE", x.sheet(0, -1, -1), BAD);
    }

    private static void sheetBounds() {
        about(35, "BAD");
        MoundVotes x = new MoundVotes();
        due("the last sheet, the last lane", x.sheet(3, 2, 1), 1);
        due("k 4", x.sheet(4, 2, 1), BAD);
        due("lane 3", x.sheet(3, 3, 1), BAD);
        for (int far : FAR) {
            due("k " + far, x.sheet(far, 0, 1), BAD);
            due("lane " + far, x.sheet(0, far, 1), BAD);
        }
        due("41 on cells", x.sheet(3, 2, 41), BAD);
        due("they stay", x.lay(3, 0, 0), 1);
        due("and no more", x.lay(3, 1, 0), -12);
    }

    private static void sheetsAreApart() {
        about(35, "SHEETS 0 to 3");
        MoundVotes x = of(FREE);
        for (int k = 0; k < 4; k++) {
            x.sheet(k, k % 3, k + 2);
            x.lay(k, 1, k % 3);
        }
        for (int k = 0; k < 4; k++) {
            x.give(k % 3, NONE);
            due("sheet " + k, x.read(k, k % 3, 0, 1), 1);
            due("its borough", x.borough(k % 3, 3), 0);
            due("its last cell", x.lay(k, k + 1, 0), 1);
            due("and no more", x.lay(k, k + 2, 0), -12);
        }
    }

    // ---- promise 36

    private static void layNull() {
        about(36, "-10 less the FAULT: NULL (nothing)");
        MoundVotes x = new MoundVotes();
        int[] places = {0, 39, 40, -1, LEAST, GREATEST};
        for (int i : places) {
            due("lay at " + i, x.lay(3, i, 0), -11);
        }
        due("it stays nothing", x.lay(3, 0, 1), -11);
    }

    private static void layIndex() {
        about(36, "-10 less the FAULT: INDEX");
        MoundVotes x = new MoundVotes();
        for (int lane = 0; lane < 3; lane++) {
            x.sheet(lane, lane, 40);
            int[] beyond = {-1, 40, 41, LEAST, GREATEST};
            for (int i : beyond) {
                due("lay at " + i, x.lay(lane, i, 0), -12);
            }
            due("the first", x.lay(lane, 0, 0), 1);
            due("the last", x.lay(lane, 39, 0), 1);
            x.sheet(lane, lane, 0);
            due("of no cells", x.lay(lane, 0, 0), -12);
        }
    }

    private static void layBounds() {
        about(36, "BAD: k");
        MoundVotes x = new MoundVotes();
        due("BAD ahead of NULL", x.lay(4, 0, 0), BAD);
        due("BAD ahead of INDEX", x.lay(4, -1, 0), BAD);
        for (int far : FAR) {
            due("k " + far, x.lay(far, 0, 0), BAD);
        }
    }

    /** Lays a value as the borough that lord 0 buys: which he has then, or NONE if the value is no borough. */
    private static int laid(int lane, int v) {
        MoundVotes x = of(FREE);
        x.sheet(2, lane, 2);
        due("lay " + v, x.lay(2, 1, v), 1);
        int bought = x.read(2, lane, 0, 1);
        int his = x.lord(0, 1);
        due("bought or refused", bought, his == 0 ? -20 : 1);
        return his == 0 ? NONE : Integer.numberOfTrailingZeros(his);
    }

    private static void layBytes() {
        about(36, "CELL i of a SHEET becomes v (its lowest bits): BYTES");
        int[] v = {0, 2, 256, 258, -256, -254, 65538, LEAST, LEAST + 2};
        int[] cell = {0, 2, 0, 2, 0, 2, 2, 0, 2};
        for (int i = 0; i < v.length; i++) {
            due("byte of " + v[i], laid(0, v[i]), cell[i]);
        }
        int[] none = {-1, 127, 128, 130, 255, -128, -130, GREATEST, 256 - 2};
        for (int value : none) {
            due("byte of " + value, laid(0, value), NONE);
        }
    }

    private static void layShorts() {
        about(36, "CELL i of a SHEET becomes v (its lowest bits): SHORTS");
        int[] v = {0, 2, 65536, 65538, -65536, -65534, LEAST, LEAST + 2};
        int[] cell = {0, 2, 0, 2, 0, 2, 0, 2};
        for (int i = 0; i < v.length; i++) {
            due("short of " + v[i], laid(1, v[i]), cell[i]);
        }
        int[] none = {-1, 256, 258, 32767, 32768, 32770, 65535, -32768, GREATEST};
        for (int value : none) {
            due("short of " + value, laid(1, value), NONE);
        }
    }

    private static void layInts() {
        about(36, "CELL i of a SHEET becomes v: INTS");
        due("int of 0", laid(2, 0), 0);
        due("int of 2", laid(2, 2), 2);
        int[] none = {-1, 256, 258, 65536, 65538, LEAST, LEAST + 2, GREATEST};
        for (int value : none) {
            due("int of " + value, laid(2, value), NONE);
        }
    }

    // ---- promise 37

    /** Sheet 1 of cells by which the two lords buy borough 0 from one another in turn. */
    private static MoundVotes inTurn(int lane, int cells) {
        MoundVotes x = of(FREE);
        x.sheet(1, lane, cells);
        for (int i = 0; i < cells; i += 2) {
            x.lay(1, i, i / 2 % 2);
        }
        return x;
    }

    private static MoundVotes withCells(String text, int... cells) {
        MoundVotes x = of(text);
        x.sheet(1, 0, cells.length);
        for (int i = 0; i < cells.length; i++) {
            x.lay(1, i, cells[i]);
        }
        return x;
    }

    private static void readNoneToTwenty() {
        about(37, "n (0 to 20) times, two CELLS each: how many were bought. BAD: n");
        for (int lane = 0; lane < 3; lane++) {
            for (int n = -1; n <= 21; n++) {
                MoundVotes x = inTurn(lane, 40);
                boolean fine = n >= 0 && n <= 20;
                due("n " + n, x.read(1, lane, 0, n), fine ? n : BAD);
                due("torn", x.torn(), 0);
                due("owner", x.borough(0, 3), fine && n > 0 ? (n - 1) % 2 : NONE);
            }
        }
    }

    private static void readFromFirstToLastCell() {
        about(37, "from CELL f on");
        for (int f = 0; f <= 38; f += 2) {
            MoundVotes x = inTurn(2, 40);
            due("from " + f, x.read(1, 2, f, 1), 1);
            due("owner", x.borough(0, 3), f / 2 % 2);
        }
        MoundVotes x = withCells(FREE, 9, 0, 2, 9);
        due("from an odd cell on", x.read(1, 0, 1, 1), 1);
        due("borough 2", x.lord(0, 1), 4);
    }

    private static void readBeyondTheCells() {
        about(37, "What the machine refuses: those that were whole ahead were");
        for (int cells = 0; cells <= 39; cells++) {
            MoundVotes x = inTurn(1, cells);
            due("20 of " + cells, x.read(1, 1, 0, 20), cells / 2);
            due("torn", x.torn(), 2);
            due("they were bought", x.borough(0, 3), cells < 2 ? NONE : (cells / 2 - 1) % 2);
        }
        int[] beyond = {-1, -2, -40, 39, 40, 41, LEAST, LEAST + 1, GREATEST, GREATEST - 1, GREATEST - 38};
        for (int f : beyond) {
            MoundVotes x = inTurn(1, 40);
            due("from " + f, x.read(1, 1, f, 20), 0);
            due("torn", x.torn(), 2);
            due("nothing was bought", x.rule(5), 7);
        }
    }

    private static void readIsAsByBuy() {
        about(37, "one behind another as by buy()");
        // Lord 1 can pay for borough 1 only with what lord 0 has paid him for borough 0.
        MoundVotes x = withCells("lord 6;lord 0;plain 2 1 1;plain 2 1 0;", 0, 0, 1, 1);
        due("both", x.read(1, 0, 0, 2), 2);
        due("lord 0", x.lord(0, 0), 6);
        due("lord 1", x.lord(1, 0), 0);
        due("lord 0 has", x.lord(0, 1), 1);
        due("lord 1 has", x.lord(1, 1), 2);
        MoundVotes y = withCells("lord 98;lord 99;plain 2 1 1;", 0, 0);
        due("one", y.read(1, 0, 0, 1), 1);
        due("99 at most", y.lord(1, 0), 99);
    }

    private static void readOfNothing() {
        about(37, "NULL (nothing)");
        for (int k = 0; k < 4; k++) {
            for (int lane = 0; lane < 3; lane++) {
                MoundVotes x = of(FREE);
                due("read", x.read(k, lane, 0, 20), 0);
                due("torn", x.torn(), 1);
                due("from far", x.read(k, lane, -1, 1), 0);
                due("NULL ahead of INDEX", x.torn(), 1);
            }
        }
    }

    private static void readOfAnotherLane() {
        about(37, "CAST (another lane)");
        for (int lane = 0; lane < 3; lane++) {
            for (int taken = 0; taken < 3; taken++) {
                MoundVotes x = inTurn(lane, 4);
                due("lane " + lane + " as " + taken, x.read(1, taken, 0, 2), lane == taken ? 2 : 0);
                due("torn", x.torn(), lane == taken ? 0 : 3);
                due("bought", x.rule(5), lane == taken ? 6 : 7);
            }
        }
    }

    private static void readBounds() {
        about(37, "BAD: k, lane, n");
        MoundVotes x = inTurn(2, 4);
        int[][] bad = {{4, 2, 0, 1}, {1, 3, 0, 1}, {1, 2, 0, 21}};
        for (int[] a : bad) {
            due("read " + a[0] + " " + a[1] + " " + a[3], x.read(a[0], a[1], a[2], a[3]), BAD);
        }
        for (int far : FAR) {
            due("k " + far, x.read(far, 2, 0, 1), BAD);
            due("lane " + far, x.read(1, far, 0, 1), BAD);
            due("n " + far, x.read(1, 2, 0, far), BAD);
            due("BAD ahead of NULL", x.read(0, far, 0, 1), BAD);
            due("BAD ahead of INDEX", x.read(1, 2, -1, far), BAD);
        }
        due("nothing was bought", x.rule(5), 7);
        due("no fault", x.torn(), 0);
    }

    private static void readRefusedInEachWay() {
        about(37, "whole, is refused by buy() (in whichever way): then none was");
        int[][] cells = {{2, 1}, {-1, 1}, {127, 1}, {0, 3}, {0, -1}, {0, 127}, {0, 0}, {1, 2}};
        for (int[] last : cells) {
            MoundVotes x = withCells("lord 9;lord 3;plain 1 1;plain 1 1;plain 2 1;", 0, 0, last[0], last[1]);
            due("refused " + last[0] + " " + last[1], x.read(1, 0, 0, 2), -21);
            due("none was", x.rule(5), 7);
            due("guineas", x.rule(4), 12);
            due("the first alone", x.read(1, 0, 0, 1), 1);
        }
        due("no lords", withCells("plain 1 1;", 0, 0).read(1, 0, 0, 1), -20);
        due("no boroughs", withCells("lord 1;", 0, 0).read(1, 0, 0, 1), -20);
    }

    private static void readRefusedFirstToLast() {
        about(37, "-20 less i: the i-th");
        for (int i = 0; i < 20; i++) {
            MoundVotes x = inTurn(0, 40);
            x.lay(1, 2 * i + 1, 3);
            due("the one at " + i, x.read(1, 0, 0, 20), -20 - i);
            due("none was", x.rule(5), 7);
            due("those ahead alone", x.read(1, 0, 0, i), i);
        }
        MoundVotes x = inTurn(0, 40);
        x.lay(1, 39, 3);
        due("counted from the first that is read", x.read(1, 0, 38, 1), -20);
    }

    private static void readTheFirstMet() {
        about(37, "the first met");
        due("refused ahead of INDEX", withCells(FREE, 0, 0, 0, 0, 1).read(1, 0, 0, 3), -21);
        due("the first of two refused", withCells(FREE, 0, 0, 0, 0, 5, 5).read(1, 0, 0, 3), -21);
        MoundVotes x = withCells(FREE, 0, 0, 7);
        due("INDEX ahead of what is not whole", x.read(1, 0, 0, 2), 1);
        due("torn", x.torn(), 2);
        MoundVotes y = withCells(FREE, 7, 7);
        due("CAST ahead of what would be refused", y.read(1, 1, 0, 1), 0);
        due("torn", y.torn(), 3);
    }

    // ---- promise 38

    private static void tornOfTheLatestThatEnded() {
        about(38, "The FAULT of the latest read() that came to an end");
        MoundVotes x = withCells(FREE, 0, 0, 0, 0);
        int[][] reads = {{2, 0, 0, 1}, {1, 0, 4, 1}, {1, 1, 0, 1}};
        for (int i = 0; i < reads.length; i++) {
            due("read", x.read(reads[i][0], reads[i][1], reads[i][2], reads[i][3]), 0);
            due("torn", x.torn(), i + 1);
            due("refused by buy()", x.read(1, 0, 0, 2), -21);
            due("it did not come to an end", x.torn(), i + 1);
            due("BAD", x.read(1, 0, 0, 21), BAD);
            due("it did not come to an end", x.torn(), i + 1);
        }
        x.lay(3, 0, 0);
        x.sheet(1, 0, -1);
        x.lay(1, 40, 0);
        due("of read() alone", x.torn(), 3);
        tell(x, FREE);
        due("a text changes nothing", x.torn(), 3);
    }

    private static void tornIsZeroThen() {
        about(38, "0");
        MoundVotes x = withCells(FREE, 0, 0);
        due("none yet", x.torn(), 0);
        x.read(3, 0, 0, 1);
        due("NULL", x.torn(), 1);
        due("bought", x.read(1, 0, 0, 1), 1);
        due("none", x.torn(), 0);
    }

    private static void tornOfNoTimes() {
        about(38, "n 0: nothing is read");
        int[][] noTimes = {{1, 0, 0}, {1, 1, 0}, {1, 0, -1}, {1, 0, GREATEST}, {3, 2, 0}};
        for (int[] a : noTimes) {
            MoundVotes x = withCells(FREE, 0, 0);
            x.read(1, 1, 0, 1);
            due("CAST", x.torn(), 3);
            due("no times", x.read(a[0], a[1], a[2], 0), 0);
            due("no fault", x.torn(), 0);
        }
    }

    // ---- promise 39

    private static void countOfNothing() {
        about(39, "How many: a new object");
        int[] want = {0, 0, 0, NONE, 0, 0};
        for (int what = 0; what < want.length; what++) {
            due("count " + what, new MoundVotes().count(what), want[what]);
        }
    }

    private static void countOfTheMost() {
        about(39, "0 SEEN, 1 IMAGES, 2 bytes on THE TAPE, 3 CELLS of SHEET 0, 4 all VOTES, 5 PLAYERS");
        MoundVotes x = of(MOST);
        for (int i = 0; i < 6; i++) {
            x.see(0, false);
            x.give(i, NONE);
        }
        x.keep(0);
        x.keep(1);
        x.sheet(0, 2, 40);
        feedAll(x, " ".repeat(160));
        int[] want = {6, 2, 160, 40, 84, 10};
        for (int what = 0; what < want.length; what++) {
            due("count " + what, x.count(what), want[what]);
        }
        due("votes of one without seats", of("twice 9 0;").count(4), 14);
        due("a player without seats", of("lord 0;plain 1 0;plain 1 1 0;").count(5), 2);
    }

    private static void countOfSheetZero() {
        about(39, "3 CELLS of SHEET 0 (NONE: nothing)");
        MoundVotes x = new MoundVotes();
        x.sheet(1, 0, 5);
        x.sheet(3, 0, 5);
        due("nothing", x.count(3), NONE);
        x.sheet(0, 0, 0);
        due("no cells", x.count(3), 0);
        x.sheet(0, 2, 1);
        due("one cell", x.count(3), 1);
    }

    private static void countBounds() {
        about(39, "BAD");
        MoundVotes x = of(TOWN);
        due("5", x.count(5), 5);
        due("6", x.count(6), BAD);
        for (int far : FAR) {
            due("count " + far, x.count(far), BAD);
        }
    }
}
