/** What there is and what is changed (promises 6 to 14): each sentence that names a boundary has a test of its own. */
public final class ChangeEdgeTest extends Checks {
    private static final int[] FAR = {Integer.MIN_VALUE, -1000, 1000, Integer.MAX_VALUE};

    public static void main(String[] args) {
        ruleOfNothing(); ruleOfTheMost(); ruleBounds(); ruleOfNobody(); ruleWithoutSeats();
        lordOfNothing(); lordOfAll(); lordBounds();
        votesByKind(); costIsPriceTimesVotes(); ownerOrNobody(); boroughBounds();
        alterKind(); alterHouses(); alterSeats(); alterBounds(); alterTellsWhatItWas();
        giveToEachLord(); giveToNobody(); giveBounds(); giveWithoutGuineas();
        purseBounds(); purseTellsWhatTheyWere(); priceBounds(); priceTellsWhatItWas();
        buyForAllHeHas(); buyWithOneLess(); buyForNothing(); buyOfNobody(); buyOfAnOwner(); sellerHasNinetyNineAtMost();
        buyAtTheDearest(); buyWhatIsHis(); buyBounds();
        takeNone(); takeAllSix(); takeOneMoreThanThereAre(); takeBounds(); takeBySmallness(); takeLeavesAllElse();
        finish();
    }

    // ---- promise 6

    private static void ruleOfNothing() {
        about(6, "no LORDS, no BOROUGHS");
        int[] want = {0, 0, 3, 0, 0, 0, 0};
        for (int what = 0; what < want.length; what++) {
            due("rule " + what, of("").rule(what), want[what]);
        }
    }

    private static void ruleOfTheMost() {
        about(6, "0 LORDS .. 6 BOROUGHS without SEATS");
        int[] want = {4, 6, 9, 18, 396, 0, 0};
        for (int what = 0; what < want.length; what++) {
            due("rule " + what, of(MOST).rule(what), want[what]);
        }
    }

    private static void ruleBounds() {
        about(6, "BAD");
        MoundVotes x = of(TOWN);
        due("-1", x.rule(-1), BAD);
        due("0", x.rule(0), 3);
        due("6", x.rule(6), 32);
        due("7", x.rule(7), BAD);
        for (int what : FAR) {
            due("rule " + what, x.rule(what), BAD);
        }
    }

    private static void ruleOfNobody() {
        about(6, "5 BOROUGHS of nobody (bits)");
        MoundVotes x = of(MOST);
        int bits = 0;
        for (int b = 0; b < 6; b++) {
            x.give(b, NONE);
            bits |= 1 << b;
            due("of nobody", x.rule(5), bits);
        }
        due("all of them", bits, 63);
        x.give(0, 0);
        due("but the first", x.rule(5), 62);
    }

    private static void ruleWithoutSeats() {
        about(6, "6 BOROUGHS without SEATS (bits)");
        MoundVotes x = of(MOST);
        for (int b = 0; b < 6; b++) {
            x.alter(b, 2, 0);
            due("without seats", x.rule(6), (2 << b) - 1);
            due("all seats", x.rule(3), 3 * (5 - b));
        }
        x.alter(5, 2, 1);
        due("but the last", x.rule(6), 31);
        due("its one seat", x.rule(3), 1);
    }

    // ---- promise 7

    private static void lordOfNothing() {
        about(7, "Of a LORD: without GUINEAS, BOROUGHS, SEATS");
        MoundVotes x = of("lord 0;");
        for (int what = 0; what < 3; what++) {
            due("lord " + what, x.lord(0, what), 0);
        }
        due("a borough of no seats", of("lord 0;plain 1 0 0;").lord(0, 2), 0);
        due("is his", of("lord 0;plain 1 0 0;").lord(0, 1), 1);
    }

    private static void lordOfAll() {
        about(7, "1 his BOROUGHS (bits), 2 SEATS of these");
        for (int l = 0; l < 4; l++) {
            MoundVotes x = of(MOST);
            for (int b = 0; b < 6; b++) {
                x.give(b, l);
            }
            due("his boroughs", x.lord(l, 1), 63);
            due("their seats", x.lord(l, 2), 18);
            due("his guineas", x.lord(l, 0), 99);
            due("the other's", x.lord((l + 1) % 4, 1), 0);
            due("the other's seats", x.lord((l + 1) % 4, 2), 0);
        }
    }

    private static void lordBounds() {
        about(7, "BAD");
        MoundVotes x = of(TOWN);
        due("lord -1", x.lord(-1, 0), BAD);
        due("lord 0", x.lord(0, 0), 40);
        due("lord 2", x.lord(2, 0), 90);
        due("lord 3", x.lord(3, 0), BAD);
        due("what -1", x.lord(0, -1), BAD);
        due("what 2", x.lord(0, 2), 2);
        due("what 3", x.lord(0, 3), BAD);
        due("the 4th", of(MOST).lord(3, 0), 99);
        due("the 5th", of(MOST).lord(4, 0), BAD);
        for (int far : FAR) {
            due("lord " + far, x.lord(far, 0), BAD);
            due("what " + far, x.lord(0, far), BAD);
        }
    }

    // ---- promise 8

    private static void votesByKind() {
        about(8, "VOTES by KIND: plain HOUSES; mound half of that (up); tent 1 more; twice: plain and mound together");
        int[][] votes = {{1, 2, 3, 4, 5, 6, 7, 8, 9}, {1, 1, 2, 2, 3, 3, 4, 4, 5}, {2, 2, 3, 3, 4, 4, 5, 5, 6},
            {2, 3, 5, 6, 8, 9, 11, 12, 14}};
        MoundVotes x = of("plain 1 1;");
        for (int kind = 0; kind < 4; kind++) {
            for (int houses = 1; houses <= 9; houses++) {
                x.alter(0, 0, kind);
                x.alter(0, 1, houses);
                due("votes of kind " + kind + ", houses " + houses, x.borough(0, 4), votes[kind][houses - 1]);
            }
        }
    }

    private static void costIsPriceTimesVotes() {
        about(8, "COST: PRICE times VOTES");
        MoundVotes x = of("twice 9 0;mound 1 1;");
        for (int price = 0; price <= 9; price++) {
            x.price(price);
            due("the most votes", x.borough(0, 5), 14 * price);
            due("the fewest votes", x.borough(1, 5), price);
        }
    }

    private static void ownerOrNobody() {
        about(8, "3 OWNER (NONE: nobody)");
        MoundVotes x = of(MOST);
        for (int b = 0; b < 6; b++) {
            due("owner", x.borough(b, 3), Math.min(b, 3));
        }
        due("nobody", of("plain 1 1;").borough(0, 3), NONE);
    }

    private static void boroughBounds() {
        about(8, "BAD");
        MoundVotes x = of("plain 1 1;plain 2 1;");
        due("borough -1", x.borough(-1, 1), BAD);
        due("borough 0", x.borough(0, 1), 1);
        due("borough 1", x.borough(1, 1), 2);
        due("borough 2", x.borough(2, 1), BAD);
        due("what -1", x.borough(0, -1), BAD);
        due("what 0", x.borough(0, 0), 0);
        due("what 5", x.borough(0, 5), 3);
        due("what 6", x.borough(0, 6), BAD);
        due("the 6th", of(MOST).borough(5, 1), 9);
        due("the 7th", of(MOST).borough(6, 1), BAD);
        for (int far : FAR) {
            due("borough " + far, x.borough(far, 0), BAD);
            due("what " + far, x.borough(0, far), BAD);
        }
    }

    // ---- promise 9

    private static void alterKind() {
        about(9, "KIND (0 plain, 1 mound, 2 tent, 3 twice) of a BOROUGH becomes v");
        altered(0, 0, 3);
    }

    private static void alterHouses() {
        about(9, "HOUSES (1 to 9) of a BOROUGH becomes v");
        altered(1, 1, 9);
    }

    private static void alterSeats() {
        about(9, "SEATS (0 to 3) of a BOROUGH becomes v");
        altered(2, 0, 3);
    }

    private static void altered(int what, int low, int high) {
        MoundVotes x = of("tent 2 2;tent 2 2;");
        int was = 2;
        for (int v = low; v <= high; v++) {
            due("alter to " + v, x.alter(1, what, v), was);
            due("is " + v, x.borough(1, what), v);
            was = v;
        }
        int[] bad = {low - 1, high + 1, -1000, 1000, Integer.MIN_VALUE, Integer.MAX_VALUE};
        for (int v : bad) {
            due("alter to " + v, x.alter(1, what, v), BAD);
            due("stays", x.borough(1, what), high);
        }
        due("the other stays", x.borough(0, what), 2);
        for (int other = 0; other < 3; other++) {
            due("what " + other, x.borough(1, other), other == what ? high : 2);
        }
    }

    private static void alterBounds() {
        about(9, "BAD");
        MoundVotes x = of("tent 2 2;tent 2 2;");
        int[][] bad = {{-1, 1}, {2, 1}, {0, -1}, {0, 3}, {Integer.MAX_VALUE, 1}, {Integer.MIN_VALUE, 1},
            {0, Integer.MAX_VALUE}, {0, Integer.MIN_VALUE}};
        for (int[] a : bad) {
            due("alter " + a[0] + " " + a[1], x.alter(a[0], a[1], 1), BAD);
        }
        due("no boroughs", new MoundVotes().alter(0, 0, 0), BAD);
        due("the 6th", of(MOST).alter(5, 1, 1), 9);
        due("the 7th", of(MOST).alter(6, 1, 1), BAD);
    }

    private static void alterTellsWhatItWas() {
        about(9, "what it was");
        MoundVotes x = of("mound 3 0;");
        for (int i = 0; i < 2; i++) {
            due("kind", x.alter(0, 0, 1), 1);
            due("houses", x.alter(0, 1, 3), 3);
            due("seats", x.alter(0, 2, 0), 0);
        }
    }

    // ---- promise 10

    private static void giveToEachLord() {
        about(10, "OWNER of a BOROUGH becomes a LORD: who it was");
        MoundVotes x = of("lord 1;lord 1;lord 1;lord 1;plain 1 1;");
        int was = NONE;
        for (int l = 0; l < 4; l++) {
            due("give to " + l, x.give(0, l), was);
            due("owner", x.borough(0, 3), l);
            was = l;
        }
        due("to whom it is", x.give(0, 3), 3);
    }

    private static void giveToNobody() {
        about(10, "(NONE: nobody)");
        MoundVotes x = of("lord 1;plain 1 1 0;");
        due("to nobody", x.give(0, NONE), 0);
        due("owner", x.borough(0, 3), NONE);
        due("to nobody again", x.give(0, NONE), NONE);
        due("without lords", of("plain 1 1;").give(0, NONE), NONE);
    }

    private static void giveBounds() {
        about(10, "BAD");
        MoundVotes x = of("lord 1;lord 1;plain 1 1 1;plain 1 1;");
        int[] badLords = {-1, -2, -3, -5, 2, 3, 4, 16, Integer.MIN_VALUE, Integer.MAX_VALUE};
        for (int l : badLords) {
            due("give 0 " + l, x.give(0, l), BAD);
            due("owner stays", x.borough(0, 3), 1);
        }
        int[] badBoroughs = {-1, 2, Integer.MIN_VALUE, Integer.MAX_VALUE};
        for (int b : badBoroughs) {
            due("give " + b + " 0", x.give(b, 0), BAD);
            due("give " + b + " NONE", x.give(b, NONE), BAD);
        }
        due("the last to the last", x.give(1, 1), NONE);
        due("no boroughs", of("lord 1;").give(0, 0), BAD);
        due("no lords", of("plain 1 1;").give(0, 0), BAD);
    }

    private static void giveWithoutGuineas() {
        about(10, "without GUINEAS");
        MoundVotes x = of("lord 0;lord 50;plain 9 1 1;");
        due("he could not buy it", x.buy(0, 0), STATE);
        due("give", x.give(0, 0), 1);
        due("who has it now", x.lord(0, 0), 0);
        due("who had it", x.lord(1, 0), 50);
    }

    // ---- promises 11 and 12

    private static void purseBounds() {
        about(11, "GUINEAS (0 to 99) of a LORD become v. BAD");
        MoundVotes x = of("lord 5;lord 7;");
        for (int v = 0; v <= 99; v++) {
            x.purse(1, v);
            due("purse " + v, x.lord(1, 0), v);
        }
        int[] bad = {-1, 100, -1000, 1000, Integer.MIN_VALUE, Integer.MAX_VALUE};
        for (int v : bad) {
            due("purse " + v, x.purse(1, v), BAD);
            due("stays", x.lord(1, 0), 99);
        }
        int[] badLords = {-1, 2, NONE, Integer.MIN_VALUE, Integer.MAX_VALUE};
        for (int l : badLords) {
            due("purse of " + l, x.purse(l, 1), BAD);
        }
        due("the other's stay", x.lord(0, 0), 5);
        due("no lords", new MoundVotes().purse(0, 1), BAD);
        due("the 4th", of(MOST).purse(3, 0), 99);
    }

    private static void purseTellsWhatTheyWere() {
        about(11, "what they were");
        MoundVotes x = of("lord 5;");
        due("were 5", x.purse(0, 0), 5);
        due("were 0", x.purse(0, 99), 0);
        due("were 99", x.purse(0, 99), 99);
        due("are 99", x.purse(0, 1), 99);
    }

    private static void priceBounds() {
        about(12, "PRICE (0 to 9) becomes v. BAD");
        MoundVotes x = new MoundVotes();
        for (int v = 0; v <= 9; v++) {
            x.price(v);
            due("price " + v, x.rule(2), v);
        }
        int[] bad = {-1, 10, -1000, 1000, Integer.MIN_VALUE, Integer.MAX_VALUE};
        for (int v : bad) {
            due("price " + v, x.price(v), BAD);
            due("stays", x.rule(2), 9);
        }
    }

    private static void priceTellsWhatItWas() {
        about(12, "what it was (3 at first)");
        MoundVotes x = new MoundVotes();
        due("at first", x.price(0), 3);
        due("was 0", x.price(9), 0);
        due("was 9", x.price(9), 9);
        due("told", of("price 7;").price(1), 7);
    }

    // ---- promise 13

    private static void buyForAllHeHas() {
        about(13, "A LORD buys a BOROUGH for COST: GUINEAS that he has left");
        MoundVotes x = of("lord 12;plain 4 1;");
        due("to the last guinea", x.buy(0, 0), 0);
        due("owner", x.borough(0, 3), 0);
        due("one more than that", of("lord 13;plain 4 1;").buy(0, 0), 1);
    }

    private static void buyWithOneLess() {
        about(13, "STATE: he has less");
        MoundVotes x = of("lord 11;lord 1;plain 4 1 1;");
        due("one less", x.buy(0, 0), STATE);
        due("his guineas", x.lord(0, 0), 11);
        due("the owner's", x.lord(1, 0), 1);
        due("the owner", x.borough(0, 3), 1);
    }

    private static void buyForNothing() {
        about(13, "PRICE 0");
        MoundVotes x = of("lord 0;lord 99;twice 9 3 1;price 0;");
        due("for nothing", x.buy(0, 0), 0);
        due("owner", x.borough(0, 3), 0);
        due("the seller has no more", x.lord(1, 0), 99);
    }

    private static void buyOfNobody() {
        about(13, "which its OWNER (if there is one) has then");
        MoundVotes x = of("lord 9;lord 9;lord 9;lord 9;plain 1 1;");
        due("of nobody", x.buy(2, 0), 6);
        due("nobody has it", x.rule(4), 33);
    }

    private static void buyOfAnOwner() {
        about(13, "which its OWNER has then");
        MoundVotes x = of("lord 9;lord 9;lord 9;lord 9;plain 1 1 3;");
        due("of the last", x.buy(0, 0), 6);
        due("the seller", x.lord(3, 0), 12);
        due("of the first", x.buy(3, 0), 9);
        due("the seller", x.lord(0, 0), 9);
        due("all", x.rule(4), 36);
    }

    private static void sellerHasNinetyNineAtMost() {
        about(13, "(99 GUINEAS at most)");
        int[] had = {86, 87, 88, 98, 99};
        int[] has = {98, 99, 99, 99, 99};
        for (int i = 0; i < had.length; i++) {
            MoundVotes x = of("lord 50;lord 0;plain 4 1 1;");
            x.purse(1, had[i]);
            due("buy", x.buy(0, 0), 38);
            due("the seller who had " + had[i], x.lord(1, 0), has[i]);
        }
    }

    private static void buyAtTheDearest() {
        about(13, "for COST");
        MoundVotes x = of("lord 99;lord 99;twice 9 3 1;twice 7 3 1;price 9;");
        due("126 guineas", x.buy(0, 0), STATE);
        due("99 guineas", x.buy(0, 1), 0);
        due("the seller", x.lord(1, 0), 99);
    }

    private static void buyWhatIsHis() {
        about(13, "STATE: it is his");
        MoundVotes x = of("lord 99;plain 1 1 0;price 0;");
        due("it is his", x.buy(0, 0), STATE);
        due("his guineas", x.lord(0, 0), 99);
        x.give(0, NONE);
        due("it is nobody's", x.buy(0, 0), 99);
        due("it is his again", x.buy(0, 0), STATE);
    }

    private static void buyBounds() {
        about(13, "BAD");
        MoundVotes x = of("lord 9;lord 9;plain 1 1;plain 1 1;plain 1 1;");
        int[] badLords = {-1, 2, NONE, Integer.MIN_VALUE, Integer.MAX_VALUE};
        for (int l : badLords) {
            due("lord " + l, x.buy(l, 0), BAD);
        }
        int[] badBoroughs = {-1, 3, Integer.MIN_VALUE, Integer.MAX_VALUE};
        for (int b : badBoroughs) {
            due("borough " + b, x.buy(0, b), BAD);
        }
        due("the last the last", x.buy(1, 2), 6);
        x.purse(0, 0);
        due("BAD ahead of STATE", x.buy(0, 3), BAD);
        due("no lords", of("plain 1 1;").buy(0, 0), BAD);
        due("no boroughs", of("lord 1;").buy(0, 0), BAD);
    }

    // ---- promise 14

    private static void takeNone() {
        about(14, "the first n (0 to 6): none");
        MoundVotes x = of(MOST);
        due("take 0", x.take(0), 0);
        due("seats", x.rule(3), 18);
        due("of no boroughs", new MoundVotes().take(0), 0);
        due("of no seats", of("plain 1 0;").take(0), 0);
    }

    private static void takeAllSix() {
        about(14, "the first n (0 to 6): all");
        for (int n = 1; n <= 6; n++) {
            MoundVotes x = of(MOST);
            due("take " + n, x.take(n), (1 << n) - 1);
            due("seats", x.rule(3), 18 - 3 * n);
            due("without seats", x.rule(6), (1 << n) - 1);
        }
    }

    private static void takeOneMoreThanThereAre() {
        about(14, "NONE: there are not so many");
        for (int with = 0; with < 6; with++) {
            MoundVotes x = of(MOST);
            for (int b = with; b < 6; b++) {
                x.alter(b, 2, 0);
            }
            due("one more than " + with, x.take(with + 1), NONE);
            due("six of " + with, x.take(6), NONE);
            due("seats stay", x.rule(3), 3 * with);
            due("as many as there are", x.take(with), (1 << with) - 1);
            due("none is left", x.take(1), NONE);
        }
        due("no boroughs", new MoundVotes().take(1), NONE);
    }

    private static void takeBounds() {
        about(14, "BAD");
        int[] bad = {-1, 7, -1000, 1000, Integer.MIN_VALUE, Integer.MAX_VALUE};
        for (int n : bad) {
            MoundVotes x = of(MOST);
            due("take " + n, x.take(n), BAD);
            due("seats stay", x.rule(3), 18);
            due("BAD ahead of NONE", new MoundVotes().take(n), BAD);
        }
    }

    private static void takeBySmallness() {
        about(14, "SMALLNESS: BOROUGHS with SEATS by VOTES, of as many by order");
        // VOTES are 9, 4, 4, 2 and, without seats, 1; the mound of 8 comes ahead of the plain one of 4.
        String text = "plain 9 1;mound 8 1;plain 4 1;tent 2 1;plain 1 0;";
        int[] want = {0, 8, 10, 14, 15, NONE, NONE};
        for (int n = 0; n <= 6; n++) {
            due("take " + n, of(text).take(n), want[n]);
        }
    }

    private static void takeLeavesAllElse() {
        about(14, "have SEATS 0 then");
        MoundVotes x = of(TOWN);
        x.take(5);
        int[][] want = {{0, 4, 0, 0, 4, 8}, {1, 7, 0, 1, 4, 8}, {2, 2, 0, NONE, 2, 4}, {3, 5, 0, 2, 8, 16},
            {0, 1, 0, NONE, 1, 2}, {1, 9, 0, 0, 5, 10}};
        for (int b = 0; b < 6; b++) {
            for (int what = 0; what < 6; what++) {
                due("borough " + b + " " + what, x.borough(b, what), want[b][what]);
            }
        }
        due("guineas", x.rule(4), 142);
    }
}
