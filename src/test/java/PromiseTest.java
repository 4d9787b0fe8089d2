/** At least one test for each promise: ordinary inputs, the edges of the document, wrong inputs. */
public final class PromiseTest extends Checks {
    public static void main(String[] args) {
        newObject(); tape(); textThatIsTaken(); textFaults(); textRefusedKeepsAll(); rule(); lord(); borough();
        alter(); give(); purse(); price(); buy(); take();
        carry(); swings(); share(); alone();
        cheap(); able(); climb(); small(); line(); bribe();
        luck(); mean();
        see(); forget(); owners(); seats(); ask();
        drift(); keepAndBack(); sheet(); lay(); read(); readRefused(); torn(); count();
        finish();
    }

    private static void newObject() {
        about(1, "a new object");
        MoundVotes x = new MoundVotes();
        int[] rules = {0, 0, 3, 0, 0, 0, 0};
        for (int what = 0; what < rules.length; what++) {
            due("rule " + what, x.rule(what), rules[what]);
        }
        int[] counts = {0, 0, 0, NONE, 0, 0};
        for (int what = 0; what < counts.length; what++) {
            due("count " + what, x.count(what), counts[what]);
        }
        for (int k = 0; k < 4; k++) {
            due("lay on nothing", x.lay(k, 0, 0), -11);
        }
        due("fault", x.fault(), 0);
        due("torn", x.torn(), 0);
        due("lord", x.lord(0, 0), BAD);
        due("borough", x.borough(0, 0), BAD);
        due("back", x.back(0), STATE);
    }

    private static void tape() {
        about(2, "feed");
        MoundVotes x = new MoundVotes();
        due("feed -1", x.feed(-1), BAD);
        due("feed 128", x.feed(128), BAD);
        due("feed 0", x.feed(0), 1);
        due("feed 127", x.feed(127), 2);
        for (int i = 3; i <= 160; i++) {
            due("feed", x.feed(' '), i);
        }
        due("feed beyond", x.feed(' '), FULL);
        due("BAD ahead of FULL", x.feed(200), BAD);
        due("count", x.count(2), 160);
        about(3, "end");
        due("end -1", x.end(-1), BAD);
        due("end 161", x.end(161), BAD);
        due("end 160", x.end(160), 160);
        due("end 1", x.end(1), 160);
        due("end 2", x.end(2), BAD);
        due("feed", x.feed('a'), 2);
        due("end 0", x.end(0), 2);
        due("end 0 again", x.end(0), 0);
        tell(x, "");
        for (char c : "lord 5;junk".toCharArray()) {
            x.feed(c);
        }
        due("end 7", x.end(7), 11);
        due("the first bytes", x.text(), 1);
        due("his guineas", x.lord(0, 0), 5);
    }

    private static void textThatIsTaken() {
        about(4, "text");
        MoundVotes x = new MoundVotes();
        due("empty", x.text(), 0);
        due("lines", tell(x, TOWN), 10);
        due("tape is empty", x.count(2), 0);
        x.see(1, true);
        x.keep(0);
        x.keep(1);
        x.sheet(0, 2, 5);
        due("without blanks", tell(x, "lord07;plain1 0;"), 2);
        due("guineas", x.lord(0, 0), 7);
        due("lords", x.rule(0), 1);
        due("boroughs", x.rule(1), 1);
        due("price is told anew", x.rule(2), 3);
        due("owner not told", x.borough(0, 3), NONE);
        due("nothing seen", x.count(0), 0);
        due("images gone", x.count(1), 0);
        due("back", x.back(0), STATE);
        due("sheets stay", x.count(3), 5);
        due("an owner told later", tell(x, " tent 9 3 3 ; lord 0;lord 1;lord 2;lord 99; "), 5);
        due("owner", x.borough(0, 3), 3);
        due("all at their most", tell(x, "price 9;plain 9 3;mound 9 3;tent 9 3;twice 9 3;plain 9 3;plain 1 3"
            + ";lord 1;lord 1;lord 1;lord 1;"), 11);
        due("seats", x.rule(3), 18);
        due("empty tells all", x.text(), 0);
        due("lords", x.rule(0), 0);
        due("price", x.rule(2), 3);
        due("one blank", tell(x, " "), 0);
        due("a full tape", tell(x, " ".repeat(153) + "lord 8;"), 1);
        due("his guineas", x.lord(0, 0), 8);
        due("a full tape without its end", tell(x, " ".repeat(154) + "lord 8"), -170);
        due("fault", x.fault(), 2);
        due("a full tape that ends in a name", tell(x, " ".repeat(156) + "lord"), -170);
        due("a full tape of blanks", tell(x, " ".repeat(160)), 0);
    }

    private static void textFaults() {
        about(5, "fault");
        Object[][] faults = {
            {"@", 1, 0}, {"lord @", 1, 5}, {"lord 5@", 1, 6}, {"Lord 5;", 1, 0}, {"100;", 1, 0}, {"lord 5; \t", 1, 8},
            {"price 001;", 1, 6}, {"plain 9 3 000;", 1, 10}, {"lord -1;", 1, 5}, {"plain 1 1 @", 1, 10},
            {"price 1,", 1, 7}, {"lord 1;lord 1;lord 1;lord 1;@", 1, 28},
            {"wall;", 2, 0}, {"  4;", 2, 2}, {";", 2, 0}, {"lord", 2, 4}, {"lord   ", 2, 7}, {"lord 5", 2, 6},
            {"lord 5 ", 2, 7}, {"lord;", 2, 4}, {"lord lord", 2, 5}, {"lord 5 5;", 2, 7}, {"lord 5;;", 2, 7},
            {"plain 1;", 2, 7}, {"plain 1 1", 2, 9}, {"plain 1 1 1", 2, 11}, {"plain 1 1 1 1;", 2, 12},
            {"plain 1 1 x;", 2, 10}, {"plain;", 2, 5}, {"price;", 2, 5}, {"price 1 1;", 2, 8}, {"pric 1;", 2, 0},
            {"lords 1;", 2, 0}, {"twic 1 1;", 2, 0}, {"lordplain 1;", 2, 0}, {"4 @", 2, 0},
            {"plain 0 1;", 3, 6}, {"plain 10 1;", 3, 6}, {"mound 1 4;", 3, 8}, {"tent 1 1 4;", 3, 9},
            {"twice 1 1 99;", 3, 10}, {"price 10;", 3, 6}, {"plain 0 @", 3, 6}, {"plain 0 100", 3, 6},
            {"price 1;price 1;", 4, 8}, {"price 1; price 10;", 4, 9}, {"price 1;price", 4, 8},
            {"price 1;price @", 4, 8},
            {"lord 1;lord 1;lord 1;lord 1;lord 1;", 5, 28}, {"lord 1;lord 1;lord 1;lord 1; lord", 5, 29},
            {"lord 1;lord 1;lord 1;lord 1;lord 100;", 5, 28},
            {"tent 1 1;tent 1 1;tent 1 1;tent 1 1;tent 1 1;tent 1 1;mound 0 9;", 5, 54},
            {"plain 1 1 0;", 6, 12}, {"plain 1 1 0;  ", 6, 14}, {"plain 1 1 1;lord 1;", 6, 19},
            {"plain 1 1 3;plain 1 1 2;lord 1;lord 1;@", 1, 38},
        };
        for (Object[] row : faults) {
            MoundVotes x = new MoundVotes();
            due("text of '" + row[0] + "'", tell(x, (String) row[0]), -10 - (Integer) row[2]);
            due("fault of '" + row[0] + "'", x.fault(), (Integer) row[1]);
            due("tape after '" + row[0] + "'", x.count(2), 0);
            due("nothing told by '" + row[0] + "'", x.rule(0) + x.rule(1), 0);
        }
        MoundVotes x = of("lord 1;");
        tell(x, "wall;");
        x.feed('a');
        due("fault stays", x.fault(), 2);
        x.end(0);
        x.text();
        due("fault is 0 then", x.fault(), 0);
    }

    private static void textRefusedKeepsAll() {
        about(4, "text");
        MoundVotes x = of(TOWN);
        x.see(1, false);
        x.keep(1);
        due("refused", tell(x, "lord 1;price 9;plain 9 3;plain 9 3 3;"), -47);
        due("lords", x.rule(0), 3);
        due("boroughs", x.rule(1), 6);
        due("price", x.rule(2), 2);
        due("guineas", x.rule(4), 142);
        due("seen", x.count(0), 1);
        due("images", x.count(1), 1);
    }

    private static void rule() {
        about(6, "rule");
        MoundVotes x = of(TOWN);
        int[] want = {3, 6, 2, 9, 142, 20, 32};
        for (int what = 0; what < want.length; what++) {
            due("rule " + what, x.rule(what), want[what]);
        }
        due("rule -1", x.rule(-1), BAD);
        due("rule 7", x.rule(7), BAD);
    }

    private static void lord() {
        about(7, "lord");
        MoundVotes x = of(TOWN);
        int[][] want = {{40, 33, 2}, {12, 2, 1}, {90, 8, 2}};
        for (int l = 0; l < 3; l++) {
            for (int what = 0; what < 3; what++) {
                due("lord " + l + " " + what, x.lord(l, what), want[l][what]);
            }
        }
        due("lord 3", x.lord(3, 0), BAD);
        due("lord -1", x.lord(-1, 0), BAD);
        due("lord NONE", x.lord(NONE, 0), BAD);
        due("what 3", x.lord(0, 3), BAD);
        due("what -1", x.lord(0, -1), BAD);
    }

    private static void borough() {
        about(8, "borough");
        MoundVotes x = of(TOWN);
        int[][] want = {{0, 4, 2, 0, 4, 8}, {1, 7, 1, 1, 4, 8}, {2, 2, 3, NONE, 2, 4}, {3, 5, 2, 2, 8, 16},
            {0, 1, 1, NONE, 1, 2}, {1, 9, 0, 0, 5, 10}};
        for (int b = 0; b < 6; b++) {
            for (int what = 0; what < 6; what++) {
                due("borough " + b + " " + what, x.borough(b, what), want[b][what]);
            }
        }
        due("borough 6", x.borough(6, 0), BAD);
        due("borough -1", x.borough(-1, 0), BAD);
        due("what 6", x.borough(0, 6), BAD);
        due("what -1", x.borough(0, -1), BAD);
        MoundVotes y = of("plain 9 1;mound 8 1;tent 1 1;twice 9 3;twice 1 0;");
        int[] votes = {9, 4, 2, 14, 2};
        for (int b = 0; b < 5; b++) {
            due("votes " + b, y.borough(b, 4), votes[b]);
            due("cost " + b, y.borough(b, 5), 3 * votes[b]);
        }
        due("there are 5", y.borough(5, 0), BAD);
    }

    private static void alter() {
        about(9, "alter");
        MoundVotes x = of(TOWN);
        due("kind", x.alter(0, 0, 3), 0);
        due("kind was", x.alter(0, 0, 0), 3);
        due("houses", x.alter(0, 1, 9), 4);
        due("houses was", x.alter(0, 1, 1), 9);
        due("seats", x.alter(0, 2, 3), 2);
        due("seats was", x.alter(0, 2, 0), 3);
        int[][] bad = {{-1, 0, 1}, {6, 0, 1}, {0, 3, 1}, {0, -1, 1}, {0, 0, -1}, {0, 0, 4}, {0, 1, 0}, {0, 1, 10},
            {0, 2, -1}, {0, 2, 4}};
        for (int[] row : bad) {
            due("alter " + row[0] + " " + row[1] + " " + row[2], x.alter(row[0], row[1], row[2]), BAD);
        }
        due("kind stays", x.borough(0, 0), 0);
        due("houses stay", x.borough(0, 1), 1);
        due("seats stay", x.borough(0, 2), 0);
    }

    private static void give() {
        about(10, "give");
        MoundVotes x = of(TOWN);
        due("to another", x.give(0, 1), 0);
        due("to himself", x.give(0, 1), 1);
        due("to nobody", x.give(0, NONE), 1);
        due("from nobody", x.give(0, 2), NONE);
        due("no lord 3", x.give(0, 3), BAD);
        due("no lord -1", x.give(0, -1), BAD);
        due("no lord -5", x.give(0, -5), BAD);
        due("no borough", x.give(6, 0), BAD);
        due("no borough", x.give(-1, NONE), BAD);
        due("owner", x.borough(0, 3), 2);
        due("guineas stay", x.rule(4), 142);
    }

    private static void purse() {
        about(11, "purse");
        MoundVotes x = of(TOWN);
        due("99", x.purse(1, 99), 12);
        due("0", x.purse(1, 0), 99);
        due("100", x.purse(1, 100), BAD);
        due("-1", x.purse(1, -1), BAD);
        due("lord 3", x.purse(3, 1), BAD);
        due("lord -1", x.purse(-1, 1), BAD);
        due("is", x.lord(1, 0), 0);
    }

    private static void price() {
        about(12, "price");
        MoundVotes x = new MoundVotes();
        due("at first", x.price(0), 3);
        due("9", x.price(9), 0);
        due("10", x.price(10), BAD);
        due("-1", x.price(-1), BAD);
        due("is", x.rule(2), 9);
    }

    private static void buy() {
        about(13, "buy");
        MoundVotes x = of(TOWN);
        due("from nobody", x.buy(0, 4), 38);
        due("all he has", x.purse(1, 4), 12);
        due("to the last guinea", x.buy(1, 2), 0);
        due("it is his", x.buy(1, 2), STATE);
        due("he has less", x.buy(1, 4), STATE);
        due("from a lord", x.buy(2, 0), 82);
        due("who has the cost", x.lord(0, 0), 46);
        x.purse(0, 95);
        due("from a lord who has much", x.buy(2, 4), 80);
        due("has 97", x.lord(0, 0), 97);
        due("again", x.buy(2, 5), 70);
        due("has 99 at most", x.lord(0, 0), 99);
        due("owner", x.borough(5, 3), 2);
        due("no lord", x.buy(3, 0), BAD);
        due("no lord", x.buy(-1, 0), BAD);
        due("no borough", x.buy(0, 6), BAD);
        due("no borough", x.buy(0, -1), BAD);
        x.price(0);
        x.purse(1, 0);
        due("for nothing", x.buy(1, 3), 0);
    }

    private static void take() {
        about(14, "take");
        MoundVotes x = of(TOWN);
        due("-1", x.take(-1), BAD);
        due("7", x.take(7), BAD);
        due("not so many", x.take(6), NONE);
        due("0", x.take(0), 0);
        due("seats", x.rule(3), 9);
        due("3", x.take(3), 21);
        due("seats left", x.rule(3), 3);
        due("without seats", x.rule(6), 53);
        due("not so many now", x.take(3), NONE);
        due("2", x.take(2), 10);
        due("none left", x.take(1), NONE);
        due("0 of none", x.take(0), 0);
    }

    private static void carry() {
        about(15, "carry");
        MoundVotes x = of(TOWN);
        int[] seats = {0, 2, 1, 3, 2, 4, 3, 5};
        for (int some = 0; some < 8; some++) {
            due("seats " + some, x.carry(some, 0), seats[some]);
            due("carry " + some, x.carry(some, 1), some == 7 ? 1 : 0);
        }
        due("8", x.carry(8, 0), BAD);
        due("-1", x.carry(-1, 1), BAD);
        due("what 2", x.carry(0, 2), BAD);
        due("what -1", x.carry(0, -1), BAD);
        MoundVotes y = of("lord 1;plain 1 2 0;plain 1 2;");
        due("just half", y.carry(1, 1), 0);
    }

    private static void swings() {
        about(16, "swings");
        MoundVotes x = of(TOWN);
        int[] want = {6, 2, 6};
        for (int l = 0; l < 3; l++) {
            due("swings " + l, x.swings(l), want[l]);
        }
        due("3", x.swings(3), BAD);
        due("-1", x.swings(-1), BAD);
        due("no boroughs", of("lord 1;").swings(0), 0);
        due("one of all", of("lord 1;plain 1 1 0;").swings(0), 1);
        due("those without seats are players too", of("lord 1;plain 1 1 0;plain 1 0;").swings(0), 2);
        MoundVotes y = of("lord 1;lord 1;lord 1;lord 1;plain 1 1;plain 1 1;plain 1 1;plain 1 1;plain 1 1;plain 1 1;");
        due("lords of nothing", y.swings(3), 0);
        y.give(0, 0);
        due("one of six", y.swings(0), 8 * 10);
    }

    private static void share() {
        about(17, "share");
        MoundVotes x = of(TOWN);
        int[][] want = {{7, 30}, {1, 15}, {7, 30}};
        for (int l = 0; l < 3; l++) {
            fraction("share " + l, x.share(l, 0), x.share(l, 1), want[l][0], want[l][1]);
        }
        due("3", x.share(3, 0), BAD);
        due("-1", x.share(-1, 0), BAD);
        due("what 2", x.share(0, 2), BAD);
        due("what -1", x.share(0, -1), BAD);
        MoundVotes y = of("lord 1;lord 1;plain 1 1 0;");
        fraction("all", y.share(0, 0), y.share(0, 1), 1, 1);
        fraction("nothing", y.share(1, 0), y.share(1, 1), 0, 1);
        MoundVotes z = of("lord 1;");
        fraction("no seats", z.share(0, 0), z.share(0, 1), 0, 1);
        MoundVotes ten = of("lord 1;lord 1;lord 1;lord 1;"
            + "plain 1 1;plain 1 1;plain 1 1;plain 1 1;plain 1 1;plain 1 1;");
        fraction("ten players", ten.share(0, 0), ten.share(0, 1), 0, 1);
        ten.give(0, 0);
        fraction("one of six", ten.share(0, 0), ten.share(0, 1), 1, 6);
    }

    private static void alone() {
        about(18, "alone");
        MoundVotes x = of(TOWN);
        fraction("alone 2", x.alone(2, 0), x.alone(2, 1), 2, 5);
        fraction("alone 4", x.alone(4, 0), x.alone(4, 1), 1, 15);
        due("owned", x.alone(0, 0), STATE);
        due("6", x.alone(6, 0), BAD);
        due("-1", x.alone(-1, 0), BAD);
        due("BAD ahead of STATE", x.alone(0, 2), BAD);
        due("what -1", x.alone(2, -1), BAD);
        MoundVotes y = of("plain 1 1;plain 1 0;plain 1 2;");
        fraction("no lords, the first", y.alone(0, 0), y.alone(0, 1), 0, 1);
        fraction("no lords, the last", y.alone(2, 0), y.alone(2, 1), 1, 1);
    }

    private static void cheap() {
        about(19, "cheap");
        MoundVotes x = of(TOWN);
        int[][] want = {{4, 4}, {6, 20}, {4, 4}};
        for (int l = 0; l < 3; l++) {
            due("cost " + l, x.cheap(l, 0), want[l][0]);
            due("set " + l, x.cheap(l, 1), want[l][1]);
        }
        due("3", x.cheap(3, 0), BAD);
        due("-1", x.cheap(-1, 0), BAD);
        due("what 2", x.cheap(0, 2), BAD);
        due("what -1", x.cheap(0, -1), BAD);
        x.purse(0, 0);
        due("whatever guineas", x.cheap(0, 0), 4);
        x.price(0);
        due("for nothing", x.cheap(1, 0), 0);
        due("the least set for nothing", x.cheap(1, 1), 5);
        due("no seats", of("lord 9;plain 1 0;").cheap(0, 0), NONE);
        due("no boroughs", of("lord 9;").cheap(0, 1), NONE);
        MoundVotes y = of("lord 0;plain 9 3 0;plain 1 1;");
        due("carries already", y.cheap(0, 0), 0);
        due("by nothing", y.cheap(0, 1), 0);
        MoundVotes z = of("lord 0;plain 2 2;plain 1 1;plain 1 1;");
        due("as dear", z.cheap(0, 0), 9);
        due("the least of several", z.cheap(0, 1), 3);
        due("all of two", of("lord 0;plain 1 1;plain 1 1;").cheap(0, 1), 3);
        due("all of one", of("lord 0;twice 1 1;").cheap(0, 0), 6);
    }

    private static void able() {
        about(20, "able");
        MoundVotes x = of(TOWN);
        int[] want = {30, 53, 55};
        for (int l = 0; l < 3; l++) {
            due("able " + l, x.able(l), want[l]);
        }
        due("3", x.able(3), BAD);
        due("-1", x.able(-1), BAD);
        x.purse(2, 4);
        due("up to his guineas", x.able(2), 20);
        x.purse(2, 0);
        due("nothing", x.able(2), 0);
        due("no boroughs", of("lord 9;").able(0), 0);
    }

    private static void climb() {
        about(21, "climb");
        MoundVotes x = of(TOWN);
        for (int l = 0; l < 3; l++) {
            due("climb " + l, x.climb(l), 2);
        }
        due("3", x.climb(3), BAD);
        due("-1", x.climb(-1), BAD);
        x.purse(0, 3);
        due("what he can buy", x.climb(0), 4);
        x.purse(0, 1);
        due("nothing to be had", x.climb(0), NONE);
        due("state stays", x.borough(2, 3), NONE);
        MoundVotes y = of("lord 9;plain 1 1;plain 1 1;plain 1 1;");
        due("of several the first", y.climb(0), 0);
        due("he has all", of("lord 9;plain 1 3 0;plain 1 1;").climb(0), NONE);
        due("no more than now", of("lord 9;lord 9;plain 1 0 1;plain 1 1;").climb(0), 1);
    }

    private static void small() {
        about(22, "small");
        MoundVotes x = of(TOWN);
        int[] want = {4, 2, 0, 1, 3, NONE};
        for (int i = 0; i < 6; i++) {
            due("small " + i, x.small(i), want[i]);
        }
        due("6", x.small(6), BAD);
        due("-1", x.small(-1), BAD);
        due("of none", new MoundVotes().small(0), NONE);
    }

    private static void line() {
        about(23, "line");
        MoundVotes x = of(TOWN);
        int[] want = {1, 1, 0, 1, NONE};
        for (int n = 1; n <= 5; n++) {
            due("line " + n, x.line(n), want[n - 1]);
        }
        due("0", x.line(0), BAD);
        due("6", x.line(6), BAD);
        x.alter(5, 2, 1);
        due("a sixth", x.line(5), 1);
    }

    private static void bribe() {
        about(24, "bribe");
        MoundVotes x = of(TOWN);
        // The first five have all 9 seats, and 5 are needed: borough 2 (3 seats for 4) and borough 0 (2 seats for 8).
        int[][] want = {{0, 0}, {0, 0}, {0, 0}, {4, 4}, {4, 4}, {12, 5}, {NONE, NONE}};
        for (int n = 0; n < 7; n++) {
            due("bribe " + n, x.bribe(n, 0), want[n][0]);
            due("whom " + n, x.bribe(n, 1), want[n][1]);
        }
        due("-1", x.bribe(-1, 0), BAD);
        due("7", x.bribe(7, 0), BAD);
        due("what 2", x.bribe(0, 2), BAD);
        due("what -1", x.bribe(0, -1), BAD);
        due("no seats", of("plain 1 0;").bribe(0, 0), NONE);
        MoundVotes y = of("plain 1 1;plain 1 1;");
        due("just half is not enough", y.bribe(1, 0), 3);
        due("who", y.bribe(1, 1), 1);
        due("all of two", y.bribe(2, 1), 3);
    }

    private static void luck() {
        about(25, "luck");
        MoundVotes x = of("lord 1;lord 1;plain 1 2 0;plain 1 1 1;plain 1 1;");
        // Lord 0 wins if his two seats are there and not both others are: 1/2 * 3/4.
        fraction("half", x.luck(5, 1, 0), x.luck(5, 1, 1), 3, 8);
        fraction("nobody stays away", x.luck(0, 1, 0), x.luck(0, 1, 1), 0, 1);
        fraction("nobody stays away, both", x.luck(0, 3, 0), x.luck(0, 3, 1), 1, 1);
        fraction("all stay away", x.luck(10, 3, 0), x.luck(10, 3, 1), 0, 1);
        // 0.9 * (1 - 0.81)
        fraction("one out of ten", x.luck(1, 1, 0), x.luck(1, 1, 1), 171, 1000);
        fraction("no lords", x.luck(5, 0, 0), x.luck(5, 0, 1), 0, 1);
        due("v 11", x.luck(11, 0, 0), BAD);
        due("v -1", x.luck(-1, 0, 0), BAD);
        due("some 4", x.luck(0, 4, 0), BAD);
        due("some -1", x.luck(0, -1, 0), BAD);
        due("what 2", x.luck(0, 0, 2), BAD);
        due("what -1", x.luck(0, 0, -1), BAD);
        fraction("no boroughs", new MoundVotes().luck(5, 0, 0), new MoundVotes().luck(5, 0, 1), 0, 1);
    }

    private static void mean() {
        about(26, "mean");
        MoundVotes x = of("lord 1;lord 1;plain 1 2 0;plain 1 1 1;plain 1 1;");
        fraction("half", x.mean(5, 1, 0), x.mean(5, 1, 1), 1, 1);
        fraction("of both", x.mean(3, 3, 0), x.mean(3, 3, 1), 21, 10);
        fraction("nobody away", x.mean(0, 3, 0), x.mean(0, 3, 1), 3, 1);
        fraction("all away", x.mean(10, 3, 0), x.mean(10, 3, 1), 0, 1);
        fraction("lowest terms", x.mean(2, 2, 0), x.mean(2, 2, 1), 4, 5);
        due("v 11", x.mean(11, 0, 0), BAD);
        due("v -1", x.mean(-1, 0, 0), BAD);
        due("some 4", x.mean(0, 4, 0), BAD);
        due("some -1", x.mean(0, -1, 0), BAD);
        due("what 2", x.mean(0, 0, 2), BAD);
        due("what -1", x.mean(0, 0, -1), BAD);
    }

    private static void see() {
        about(27, "see");
        MoundVotes x = of(TOWN);
        due("8", x.see(8, true), BAD);
        due("-1", x.see(-1, true), BAD);
        for (int i = 1; i <= 6; i++) {
            due("see", x.see(i, i == 1), i);
        }
        due("the seventh", x.see(0, false), FULL);
        due("BAD ahead of FULL", x.see(8, false), BAD);
        due("seen", x.count(0), 6);
    }

    private static void forget() {
        about(28, "forget");
        MoundVotes x = of(TOWN);
        x.see(5, true);
        x.see(0, true);
        x.see(1, true);
        due("-1", x.forget(-1), BAD);
        due("4", x.forget(4), BAD);
        due("3", x.forget(3), 3);
        due("1", x.forget(1), 3);
        due("2", x.forget(2), BAD);
        due("the first is left", x.owners(2), 5);
        due("0", x.forget(0), 1);
        due("none is left", x.owners(2), 23);
    }

    private static void owners() {
        about(29, "owners");
        MoundVotes x = of(TOWN);
        due("nothing seen", x.owners(0), 23);
        x.see(5, true);
        due("one carried", x.owners(2), 5);
        x.see(1, false);
        due("one did not", x.owners(2), 4);
        x.see(0, true);
        due("none can be", x.owners(2), 0);
        due("6", x.owners(6), BAD);
        due("-1", x.owners(-1), BAD);
        due("all stays", x.borough(2, 3), NONE);
        MoundVotes y = of("lord 1;lord 1;lord 1;lord 1;plain 1 1 3;");
        due("four and nobody", y.owners(0), 31);
        y.see(15, false);
        due("nobody", y.owners(0), 16);
        due("no lords", of("plain 1 1;").owners(0), 16);
    }

    private static void seats() {
        about(30, "seats");
        MoundVotes x = of(TOWN);
        due("nothing seen", x.seats(2), 15);
        x.see(5, true);
        due("of nobody", x.seats(2), 3);
        due("of one of them, who can not have so many", x.seats(0), 0);
        x.alter(2, 2, 2);
        due("of one of them, three", x.seats(0), 8);
        x.alter(2, 2, 3);
        x.see(7, false);
        due("none can be", x.seats(2), 0);
        due("6", x.seats(6), BAD);
        due("-1", x.seats(-1), BAD);
        due("all stays", x.borough(2, 2), 3);
    }

    private static void ask() {
        about(31, "ask");
        MoundVotes x = of(TOWN);
        x.see(5, true);
        due("whom", x.ask(2, 0), 1);
        due("left", x.ask(2, 1), 1);
        due("6", x.ask(6, 0), BAD);
        due("-1", x.ask(-1, 0), BAD);
        due("what 2", x.ask(2, 2), BAD);
        due("what -1", x.ask(2, -1), BAD);
        x.see(0, true);
        due("none is left already", x.ask(2, 0), NONE);
        due("none is left already", x.ask(2, 1), NONE);
        MoundVotes y = of("lord 1;lord 1;lord 1;lord 1;plain 1 1 3;");
        due("two of five by halves", y.ask(0, 0), 3);
        due("three at the worst", y.ask(0, 1), 3);
        y.see(7, false);
        due("lord 3 or nobody", y.ask(0, 0), 8);
        due("one at the worst", y.ask(0, 1), 1);
        y.see(8, true);
        due("one is known", y.ask(0, 0), NONE);
        MoundVotes z = of("lord 1;lord 1;plain 1 1 0;plain 1 1 1;plain 1 1;");
        z.see(1, false);
        due("both", z.ask(2, 0), 2);
        z.see(2, false);
        due("only nobody", z.owners(2), 16);
        z.alter(2, 2, 0);
        due("by none", z.ask(2, 0), NONE);
        due("no lords", of("plain 1 1;").ask(0, 0), NONE);
    }

    private static void drift() {
        about(32, "drift");
        MoundVotes x = of("lord 40;lord 99;lord 82;plain 4 2 1;mound 7 1 1;tent 2 3;plain 1 1 0;price 2;");
        long[] seeds = {1, 7, -3, Integer.MAX_VALUE, Integer.MIN_VALUE};
        for (long seed : seeds) {
            for (int n = 1; n <= 60; n += 59) {
                due("sales", x.drift((int) seed, n, 0), drifted(x, seed, n, 0));
                due("guineas", x.drift((int) seed, n, 1), drifted(x, seed, n, 1));
            }
        }
        due("by itself", x.rule(4), 221);
        due("n 0", x.drift(1, 0, 0), BAD);
        due("n 61", x.drift(1, 61, 0), BAD);
        due("what 2", x.drift(1, 1, 2), BAD);
        due("what -1", x.drift(1, 1, -1), BAD);
        MoundVotes y = of("lord 9;plain 2 1;");
        due("one lord, one borough", y.drift(5, 60, 0), 1);
        due("his guineas", y.drift(5, 60, 1), 3);
        due("no lords", of("plain 1 1;").drift(1, 1, 0), STATE);
        due("no boroughs", of("lord 1;").drift(1, 1, 0), STATE);
        due("BAD ahead of STATE", of("lord 1;").drift(1, 61, 0), BAD);
    }

    /** Drift by the other calls, the seed in 64 bits. */
    private static int drifted(MoundVotes x, long seed, int n, int what) {
        x.keep(0);
        long s = seed & 0xffffffffL;
        int sales = 0;
        for (int i = 0; i < n; i++) {
            s = (s * 1103515245L + 12345L) & 0xffffffffL;
            int l = (int) (s / 65536 % 32768 % x.rule(0));
            s = (s * 1103515245L + 12345L) & 0xffffffffL;
            int b = (int) (s / 65536 % 32768 % x.rule(1));
            if (x.buy(l, b) >= 0) {
                sales++;
            }
        }
        int guineas = x.rule(4);
        x.back(0);
        return what == 0 ? sales : guineas;
    }

    private static void keepAndBack() {
        about(33, "keep");
        MoundVotes x = of(TOWN);
        due("first", x.keep(0), 0);
        due("second", x.keep(0), 1);
        due("other", x.keep(1), 0);
        due("2", x.keep(2), BAD);
        due("-1", x.keep(-1), BAD);
        due("images", x.count(1), 2);
        about(34, "back");
        MoundVotes y = of(TOWN);
        due("none", y.back(0), STATE);
        y.keep(0);
        x.see(1, true);
        y.buy(2, 0);
        y.price(5);
        y.alter(1, 0, 2);
        y.alter(1, 1, 1);
        y.alter(1, 2, 3);
        y.see(1, true);
        y.keep(1);
        due("back", y.back(0), 142);
        int[] rules = {3, 6, 2, 9, 142, 20, 32};
        for (int what = 0; what < rules.length; what++) {
            due("rule " + what, y.rule(what), rules[what]);
        }
        int[] first = {1, 7, 1, 1};
        for (int what = 0; what < first.length; what++) {
            due("borough " + what, y.borough(1, what), first[what]);
        }
        due("seen stays", y.count(0), 1);
        y.purse(0, 0);
        due("an image stays", y.back(0), 142);
        due("the other", y.back(1), 142);
        due("its owner", y.borough(0, 3), 2);
        due("its price", y.rule(2), 5);
        due("2", y.back(2), BAD);
        due("-1", y.back(-1), BAD);
    }

    private static void sheet() {
        about(35, "sheet");
        MoundVotes x = new MoundVotes();
        due("40", x.sheet(0, 0, 40), 1);
        due("cells", x.count(3), 40);
        due("41", x.sheet(0, 0, 41), BAD);
        due("size", x.sheet(0, 0, -1), -14);
        due("cells stay", x.count(3), 40);
        due("k 4", x.sheet(4, 0, 1), BAD);
        due("k -1", x.sheet(-1, 0, 1), BAD);
        due("lane 3", x.sheet(0, 3, 1), BAD);
        due("lane -1", x.sheet(0, -1, 1), BAD);
        due("BAD ahead of size", x.sheet(0, 3, -1), BAD);
        due("0 cells", x.sheet(0, 2, 0), 1);
        due("none", x.count(3), 0);
        due("index", x.lay(0, 0, 0), -12);
        MoundVotes y = of("lord 9;lord 9;plain 1 1 0;plain 1 1;");
        y.sheet(2, 0, 2);
        y.lay(2, 0, 1);
        y.lay(2, 1, 1);
        y.sheet(2, 2, 2);
        y.give(0, NONE);
        due("cells are 0", y.read(2, 2, 0, 1), 1);
        due("lord 0 has borough 0", y.borough(0, 3), 0);
    }

    private static void lay() {
        about(36, "lay");
        MoundVotes x = of("lord 9;plain 1 1;plain 1 1;plain 1 1;");
        due("k 4", x.lay(4, 0, 0), BAD);
        due("k -1", x.lay(-1, 0, 0), BAD);
        due("null", x.lay(0, 0, 0), -11);
        due("null ahead of index", x.lay(0, -1, 0), -11);
        for (int lane = 0; lane <= 2; lane++) {
            x.sheet(lane, lane, 2);
            due("index 2", x.lay(lane, 2, 0), -12);
            due("index -1", x.lay(lane, -1, 0), -12);
            int low = lane == 0 ? 256 : lane == 1 ? 65536 : 0;
            due("lay", x.lay(lane, 1, low + lane), 1);
            due("lowest bits", x.read(lane, lane, 0, 1), 1);
            due("bought", x.borough(lane, 3), 0);
        }
        x.give(0, NONE);
        x.lay(0, 1, 128);
        due("below 0", x.read(0, 0, 0, 1), -20);
        x.lay(2, 1, 65536);
        due("all bits of an int", x.read(2, 2, 0, 1), -20);
    }

    private static MoundVotes withSheet(int... cells) {
        MoundVotes x = of("lord 50;lord 50;plain 3 1;plain 2 2 1;");
        x.sheet(1, 1, cells.length);
        for (int i = 0; i < cells.length; i++) {
            x.lay(1, i, cells[i]);
        }
        return x;
    }

    private static void read() {
        about(37, "read");
        MoundVotes x = withSheet(0, 0, 0, 1, 1, 0);
        due("three", x.read(1, 1, 0, 3), 3);
        due("lord 0", x.lord(0, 0), 44);
        due("lord 1", x.lord(1, 0), 47);
        due("owner 0", x.borough(0, 3), 1);
        due("owner 1", x.borough(1, 3), 0);
        due("from a cell on", withSheet(9, 0, 0).read(1, 1, 1, 1), 1);
        x.sheet(3, 2, 2);
        due("the last sheet", x.read(3, 2, 0, 1), 1);
        due("k 4", x.read(4, 1, 0, 1), BAD);
        due("k -1", x.read(-1, 1, 0, 1), BAD);
        due("lane 3", x.read(1, 3, 0, 1), BAD);
        due("lane -1", x.read(1, -1, 0, 1), BAD);
        due("n 21", x.read(1, 1, 0, 21), BAD);
        due("n -1", x.read(1, 1, 0, -1), BAD);
        due("n 0", x.read(1, 1, 0, 0), 0);
        MoundVotes y = withSheet(0, 0, 0, 1, 1);
        due("those that were whole", y.read(1, 1, 0, 20), 2);
        due("its fault", y.torn(), 2);
        due("they were bought", y.lord(0, 1), 3);
        due("far", y.read(1, 1, Integer.MAX_VALUE, 20), 0);
        due("far below", y.read(1, 1, Integer.MIN_VALUE, 20), 0);
    }

    private static void readRefused() {
        about(37, "read");
        MoundVotes x = withSheet(0, 0, 0, 1, 0, 1, 0);
        due("the third is refused", x.read(1, 1, 0, 4), -22);
        due("then none was", x.rule(4), 100);
        due("no owner", x.borough(0, 3), NONE);
        due("the machine first", x.read(1, 1, 4, 4), 1);
        MoundVotes y = withSheet(2, 0, 0);
        due("no lord, ahead of the index", y.read(1, 1, 0, 2), -20);
        due("no borough", withSheet(0, 2).read(1, 1, 0, 1), -20);
        due("the second", withSheet(0, 0, 0, 0).read(1, 1, 0, 2), -21);
        due("below 0", withSheet(-1, 0).read(1, 1, 0, 1), -20);
        MoundVotes z = withSheet(0, 0);
        z.purse(0, 8);
        due("he has less", z.read(1, 1, 0, 1), -20);
    }

    private static void torn() {
        about(38, "torn");
        MoundVotes x = withSheet(0, 0, 0, 0, 1);
        x.read(2, 1, 0, 1);
        due("null", x.torn(), 1);
        x.read(1, 1, 5, 1);
        due("index", x.torn(), 2);
        x.read(1, 1, -1, 1);
        due("index below 0", x.torn(), 2);
        x.read(1, 0, 99, 1);
        due("cast ahead of index", x.torn(), 3);
        due("refused by buy", x.read(1, 1, 0, 3), -21);
        due("stays", x.torn(), 3);
        due("BAD", x.read(4, 0, 0, 0), BAD);
        due("stays", x.torn(), 3);
        due("bought", x.read(1, 1, 0, 1), 1);
        due("none", x.torn(), 0);
        x.read(1, 2, 0, 1);
        due("cast", x.torn(), 3);
        x.lay(1, 99, 0);
        x.sheet(1, 1, -1);
        due("other calls change nothing", x.torn(), 3);
        readNoTimes(x);
    }

    /** With n 0 nothing is read of a sheet, so there is nothing that the machine refuses. */
    private static void readNoTimes(MoundVotes x) {
        int[][] noTimes = {{1, 0, 0}, {1, 2, 99}, {2, 1, 0}, {1, 1, 99}, {1, 1, -1}};
        for (int[] a : noTimes) {
            x.read(1, 2, 0, 1);
            due("a fault ahead", x.torn(), 3);
            due("no times", x.read(a[0], a[1], a[2], 0), 0);
            due("no times, no fault", x.torn(), 0);
        }
    }

    private static void count() {
        about(39, "count");
        MoundVotes x = of(TOWN);
        x.see(1, true);
        x.see(1, false);
        x.keep(1);
        x.feed('a');
        x.feed('b');
        x.feed('c');
        x.sheet(0, 1, 7);
        x.sheet(1, 1, 9);
        int[] want = {2, 1, 3, 7, 24, 5};
        for (int what = 0; what < want.length; what++) {
            due("count " + what, x.count(what), want[what]);
        }
        due("6", x.count(6), BAD);
        due("-1", x.count(-1), BAD);
    }
}
