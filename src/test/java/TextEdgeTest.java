/** THE TAPE and the text (promises 1 to 5): each sentence that names a boundary has a test of its own. */
public final class TextEdgeTest extends Checks {
    private static final String[] KINDS = {"plain", "mound", "tent", "twice"};
    private static final String FOUR_LORDS = "lord 1;lord 2;lord 3;lord 4;";
    private static final String SIX_TENTS = "tent 1 1;tent 1 1;tent 1 1;tent 1 1;tent 1 1;tent 1 1;";

    public static void main(String[] args) {
        newHasNoLords(); newHasNoBoroughs(); newHasNoSheets(); newHasThePriceOfThree(); newHasNothingElse();
        objectsAreApart();
        bytesAreSevenBits(); feedCountsToTheLastByte(); oneByteMoreIsFull(); badByteOnAFullTape();
        endKeepsNothingToAll(); endBeyondIsBad(); endOfAnEmptyTape(); endKeepsTheFirstBytes(); feedBehindAnEnd();
        textOfNothing(); textOfBlanks(); textCountsItsLines(); placesFromTheFirstByteToTheLength(); tapeIsEmptyThen();
        faultIsOfTheLatestText(); otherCallsLeaveTheFault();
        eachByteAlone(); onlyBlanksPart(); numbersOfOneAndTwoFigures(); tokensAreAsLongAsMayBe();
        otherNamesBeginNoLine(); eachTokenAtEachPlace();
        eachKindHasItsLine(); guineasInTheText(); housesInTheText(); seatsInTheText(); ownerInTheText(); ownerNotTold();
        priceInTheText(); theFirstFaultMet(); priceTwice(); fourLordsAndOneMore(); sixBoroughsAndOneMore();
        ownerWithoutALord(); behindAll();
        takenTextTellsAll(); takenTextHasNothingSeen(); takenTextHasNoImages(); refusedTextLeavesWhatWasTold();
        finish();
    }

    /** A text that is refused: the answer has the fault's place, fault() its number. */
    private static void refused(String text, int number, int place) {
        MoundVotes x = new MoundVotes();
        due("text of '" + text + "'", tell(x, text), -10 - place);
        due("fault of '" + text + "'", x.fault(), number);
        due("lords and boroughs behind '" + text + "'", x.rule(0) + x.rule(1), 0);
    }

    private static MoundVotes taken(String text, int lines) {
        MoundVotes x = new MoundVotes();
        due("text of '" + text + "'", tell(x, text), lines);
        due("fault of '" + text + "'", x.fault(), 0);
        return x;
    }

    // ---- promise 1

    private static void newHasNoLords() {
        about(1, "No LORDS");
        MoundVotes x = new MoundVotes();
        due("lords", x.rule(0), 0);
        due("guineas", x.rule(4), 0);
        for (int what = 0; what < 3; what++) {
            due("lord 0", x.lord(0, what), BAD);
        }
        due("the set of none", x.carry(0, 0), 0);
        due("the set of the first", x.carry(1, 0), BAD);
    }

    private static void newHasNoBoroughs() {
        about(1, "no BOROUGHS");
        MoundVotes x = new MoundVotes();
        int[] none = {1, 3, 5, 6};
        for (int what : none) {
            due("rule " + what, x.rule(what), 0);
        }
        for (int what = 0; what < 6; what++) {
            due("borough 0", x.borough(0, what), BAD);
        }
        due("votes", x.count(4), 0);
        due("players", x.count(5), 0);
    }

    private static void newHasNoSheets() {
        about(1, "SHEETS have nothing");
        for (int k = 0; k < 4; k++) {
            MoundVotes x = new MoundVotes();
            due("lay on sheet " + k, x.lay(k, 0, 0), -11);
            for (int lane = 0; lane < 3; lane++) {
                due("read of sheet " + k, x.read(k, lane, 0, 1), 0);
                due("torn of sheet " + k, x.torn(), 1);
            }
        }
        due("cells of sheet 0", new MoundVotes().count(3), NONE);
    }

    private static void newHasThePriceOfThree() {
        about(1, "PRICE (0 to 9; 3 at first)");
        due("price", new MoundVotes().rule(2), 3);
        due("price was", new MoundVotes().price(5), 3);
    }

    private static void newHasNothingElse() {
        about(1, "a new object");
        MoundVotes x = new MoundVotes();
        due("seen", x.count(0), 0);
        due("images", x.count(1), 0);
        due("bytes", x.count(2), 0);
        due("fault", x.fault(), 0);
        due("torn", x.torn(), 0);
        due("back 0", x.back(0), STATE);
        due("back 1", x.back(1), STATE);
    }

    private static void objectsAreApart() {
        about(1, "a new object");
        MoundVotes x = of(TOWN);
        x.sheet(0, 0, 3);
        x.see(1, true);
        x.keep(0);
        x.feed('a');
        MoundVotes y = new MoundVotes();
        due("lords of the new one", y.rule(0), 0);
        for (int what = 0; what < 6; what++) {
            due("count " + what + " of the new one", y.count(what), what == 3 ? NONE : 0);
        }
        tell(y, "lord 7;");
        due("lords of the old one", x.rule(0), 3);
    }

    // ---- promise 2

    private static void bytesAreSevenBits() {
        about(2, "A byte (0 to 127)");
        int[] bad = {-1, -2, -128, Integer.MIN_VALUE, 128, 129, 255, 256, 256 + 'a', 65536 + 'a', Integer.MAX_VALUE};
        MoundVotes x = new MoundVotes();
        for (int c : bad) {
            due("feed " + c, x.feed(c), BAD);
            due("bytes behind " + c, x.count(2), 0);
        }
        due("feed 0", x.feed(0), 1);
        due("feed 1", x.feed(1), 2);
        due("feed 126", x.feed(126), 3);
        due("feed 127", x.feed(127), 4);
    }

    private static void feedCountsToTheLastByte() {
        about(2, "comes behind THE TAPE: how many it has");
        MoundVotes x = new MoundVotes();
        for (int i = 1; i <= 160; i++) {
            due("feed", x.feed(' '), i);
            due("bytes", x.count(2), i);
        }
    }

    private static void oneByteMoreIsFull() {
        about(2, "FULL: more than 160");
        MoundVotes x = new MoundVotes();
        feedAll(x, " ".repeat(152) + "lord 41;");
        due("the 161st", x.feed('@'), FULL);
        due("the 161st again", x.feed(' '), FULL);
        due("bytes", x.count(2), 160);
        due("the text has not changed", x.text(), 1);
        due("guineas", x.lord(0, 0), 41);
        due("there is room again", x.feed(' '), 1);
    }

    private static void badByteOnAFullTape() {
        about(2, "BAD; FULL: the first that fits");
        MoundVotes x = new MoundVotes();
        feedAll(x, " ".repeat(159));
        due("BAD with room for one", x.feed(128), BAD);
        due("the 160th", x.feed(' '), 160);
        due("128", x.feed(128), BAD);
        due("-1", x.feed(-1), BAD);
        due("127", x.feed(127), FULL);
        due("0", x.feed(0), FULL);
    }

    // ---- promise 3

    private static void endKeepsNothingToAll() {
        about(3, "THE TAPE keeps its first n bytes: how many it had");
        for (int n = 0; n <= 160; n++) {
            MoundVotes x = new MoundVotes();
            feedAll(x, " ".repeat(160));
            due("end " + n, x.end(n), 160);
            due("bytes", x.count(2), n);
            due("end again", x.end(0), n);
        }
    }

    private static void endBeyondIsBad() {
        about(3, "BAD");
        MoundVotes x = new MoundVotes();
        feedAll(x, "lord 5;");
        int[] bad = {-1, Integer.MIN_VALUE, 8, 160, 161, Integer.MAX_VALUE};
        for (int n : bad) {
            due("end " + n, x.end(n), BAD);
            due("bytes", x.count(2), 7);
        }
        due("end 7", x.end(7), 7);
        due("the text is whole", x.text(), 1);
    }

    private static void endOfAnEmptyTape() {
        about(3, "an empty THE TAPE");
        MoundVotes x = new MoundVotes();
        due("end 0", x.end(0), 0);
        due("end 1", x.end(1), BAD);
        due("end -1", x.end(-1), BAD);
    }

    private static void endKeepsTheFirstBytes() {
        about(3, "keeps its first n bytes");
        MoundVotes x = new MoundVotes();
        feedAll(x, "lord 5;lord 6;lord 7;");
        due("end 14", x.end(14), 21);
        due("two lines", x.text(), 2);
        due("guineas", x.rule(4), 11);
    }

    private static void feedBehindAnEnd() {
        about(3, "keeps its first n bytes");
        MoundVotes x = new MoundVotes();
        feedAll(x, " ".repeat(152) + "lord 12;");
        due("end 158", x.end(158), 160);
        due("feed ;", x.feed(';'), 159);
        due("feed blank", x.feed(' '), 160);
        due("FULL again", x.feed(' '), FULL);
        due("text", x.text(), 1);
        due("guineas", x.lord(0, 0), 1);
    }

    // ---- promise 4

    private static void textOfNothing() {
        about(4, "text: { line }, of no line");
        taken("", 0);
        MoundVotes x = of(MOST);
        due("nothing tells all", x.text(), 0);
        int[] rules = {0, 0, 3, 0, 0, 0, 0};
        for (int what = 0; what < rules.length; what++) {
            due("rule " + what, x.rule(what), rules[what]);
        }
    }

    private static void textOfBlanks() {
        about(4, "blanks (32) between");
        taken(" ", 0);
        taken(" ".repeat(160), 0);
        MoundVotes x = taken("  lord   1  ;   plain  2   1   0  ;  ", 2);
        due("owner", x.borough(0, 3), 0);
    }

    private static void textCountsItsLines() {
        about(4, "how many lines");
        String all = "price 0;" + FOUR_LORDS + SIX_TENTS;
        int lines = 0;
        for (int i = 1; i <= all.length(); i++) {
            if (all.charAt(i - 1) == ';') {
                lines++;
                taken(all.substring(0, i), lines);
            }
        }
        due("as many lines as there may be", lines, 11);
    }

    private static void placesFromTheFirstByteToTheLength() {
        about(4, "-10 less the place of its FAULT; places from 0");
        for (int place = 0; place < 160; place++) {
            refused(" ".repeat(place) + "@", 1, place);
            refused(" ".repeat(place) + ";", 2, place);
        }
        for (int blanks = 0; blanks <= 156; blanks++) {
            refused("lord" + " ".repeat(blanks), 2, 4 + blanks);
            refused(" ".repeat(blanks) + "lord", 2, 4 + blanks);
        }
        refused(" ".repeat(154) + "lord 8", 2, 160);
        refused("plain 1 1 0;" + " ".repeat(148), 6, 160);
    }

    private static void tapeIsEmptyThen() {
        about(4, "THE TAPE (empty then)");
        String[] texts = {"", "lord 1;", "@", "wall;", "price 10;", "price 1;price 1;", FOUR_LORDS + "lord 5;",
            "plain 1 1 0;", " ".repeat(160)};
        for (String text : texts) {
            MoundVotes x = new MoundVotes();
            tell(x, text);
            due("bytes behind '" + text + "'", x.count(2), 0);
            due("the next byte", x.feed(' '), 1);
            due("and nothing is left of it", x.text(), 0);
        }
    }

    // ---- promise 5

    private static void faultIsOfTheLatestText() {
        about(5, "The FAULT of the latest text(); 0");
        MoundVotes x = new MoundVotes();
        due("none yet", x.fault(), 0);
        String[] texts = {"@", ";", "price 10;", "price 1;price 1;", FOUR_LORDS + "lord 5;", "plain 1 1 0;", "lord 1;"};
        int[] faults = {1, 2, 3, 4, 5, 6, 0};
        for (int round = 0; round < 2; round++) {
            for (int i = 0; i < texts.length; i++) {
                tell(x, texts[i]);
                due("fault of " + texts[i], x.fault(), faults[i]);
                due("asked again", x.fault(), faults[i]);
            }
        }
    }

    private static void otherCallsLeaveTheFault() {
        about(5, "of the latest text()");
        MoundVotes x = new MoundVotes();
        tell(x, "price 10;");
        x.feed('a');
        x.end(0);
        x.price(4);
        x.keep(0);
        x.back(0);
        x.read(0, 0, 0, 1);
        x.sheet(0, 0, -1);
        due("fault", x.fault(), 3);
    }

    // ---- the grammar

    private static void eachByteAlone() {
        about(4, "NAMES (a .. z), NUMBERS, one ; ; FAULT 1 no TOKEN");
        for (int c = 0; c < 128; c++) {
            String text = String.valueOf((char) c);
            if (c == ' ') {
                taken(text, 0);
            } else {
                boolean token = c >= 'a' && c <= 'z' || c >= '0' && c <= '9' || c == ';';
                refused(text, token ? 2 : 1, 0);
            }
        }
    }

    private static void onlyBlanksPart() {
        about(4, "blanks (32) between");
        int[] others = {0, 9, 10, 11, 12, 13, 31, 33, 95, 96, 123, 127};
        for (int c : others) {
            refused("lord" + (char) c + "1;", 1, 4);
            refused("lord 1" + (char) c + ";", 1, 6);
        }
        refused("lo rd 1;", 2, 0);
        refused("lord 1 2;", 2, 7);
        taken("lord1;", 1);
        taken("plain1 2 ;", 1);
    }

    private static void numbersOfOneAndTwoFigures() {
        about(4, "NUMBERS (1 or 2 figures); FAULT 1 a NUMBER that is too long (its first byte)");
        String[] told = {"0", "9", "00", "09", "10", "99"};
        int[] guineas = {0, 9, 0, 9, 10, 99};
        for (int i = 0; i < told.length; i++) {
            due("guineas " + told[i], taken("lord " + told[i] + ";", 1).lord(0, 0), guineas[i]);
        }
        String[] tooLong = {"000", "001", "100", "999", "0000000000", "99999999999999999999"};
        for (String number : tooLong) {
            refused(number, 1, 0);
            refused("  lord  " + number + ";", 1, 8);
            refused("price " + number, 1, 6);
            refused("plain " + number + " 1;", 1, 6);
            refused("plain 1 " + number + ";", 1, 8);
            refused("plain 1 1 " + number + ";", 1, 10);
        }
        due("00 to 03 are seats", taken("plain 01 03;", 1).borough(0, 2), 3);
        refused("plain 00 1;", 3, 6);
    }

    private static void tokensAreAsLongAsMayBe() {
        about(4, "TOKENS, each as long as may be");
        refused("lordlord 1;", 2, 0);
        refused("lordx 1;", 2, 0);
        refused("lor 1;", 2, 0);
        refused("prices 1;", 2, 0);
        refused("pric 1;", 2, 0);
        for (String kind : KINDS) {
            refused(kind + "s 1 1;", 2, 0);
            refused(kind.substring(1) + " 1 1;", 2, 0);
            refused(kind.substring(0, kind.length() - 1) + " 1 1;", 2, 0);
        }
        refused("plain 11;", 3, 6);
        refused("price 5lord 1;", 2, 7);
        refused("1lord 1;", 2, 0);
        refused("lord 1;;", 2, 7);
        taken("price5;lord6;tent7 3;", 3);
    }

    private static void otherNamesBeginNoLine() {
        about(5, "FAULT 2 a NAME that begins no line");
        String[] lines = {"lord 1;", "price 1;", "plain 1 1;", "mound 1 1;", "tent 1 1;", "twice 1 1;"};
        for (String line : lines) {
            taken(line, 1);
            for (int i = 0; i < line.indexOf(' '); i++) {
                for (char c = 'a'; c <= 'z'; c++) {
                    if (c != line.charAt(i)) {
                        refused(line.substring(0, i) + c + line.substring(i + 1), 2, 0);
                    }
                }
            }
        }
    }

    /** What may stand behind each beginning: a name, a number, a stop, the end; all else is a fault at its place. */
    private static void eachTokenAtEachPlace() {
        about(4, "line: lord N ; | K N N [ N ] ; | price N ; FAULT 2 a TOKEN that can not stand there, or the end");
        standsBehind("", true, false, false, true);
        standsBehind("lord 1;", true, false, false, true);
        standsBehind("price 1;", false, false, false, true);
        standsBehind("lord", false, true, false, false);
        standsBehind("lord 1", false, false, true, false);
        standsBehind("price", false, true, false, false);
        standsBehind("price 1", false, false, true, false);
        for (String kind : KINDS) {
            standsBehind(kind, false, true, false, false);
            standsBehind(kind + " 1", false, true, false, false);
            standsBehind(kind + " 1 1", false, true, true, false);
            standsBehind("lord 0;" + kind + " 1 1 0", false, false, true, false);
            standsBehind(kind + " 1 1;", true, false, false, true);
        }
    }

    private static void standsBehind(String begun, boolean name, boolean number, boolean stop, boolean end) {
        int place = begun.length() + 1;
        String ahead = begun + " ";
        refused(ahead + "@", 1, place);
        refused(ahead + "123", 1, place);
        refused(ahead + "wall", 2, place);
        if (!name && !begun.startsWith("price 1;")) {
            refused(ahead + "price", 2, place);
            refused(ahead + "lord", 2, place);
        }
        if (!number) {
            refused(ahead + "1", 2, place);
        }
        if (!stop) {
            refused(ahead + ";", 2, place);
        }
        if (end) {
            int lines = begun.isEmpty() ? 0 : 1;
            taken(ahead, lines);
        } else {
            refused(ahead, 2, place);
            refused(begun, 2, place - 1);
        }
    }

    private static void eachKindHasItsLine() {
        about(4, "K: plain | mound | tent | twice");
        for (int kind = 0; kind < 4; kind++) {
            MoundVotes x = taken("lord 1;" + KINDS[kind] + " 9 3 0;", 2);
            due("kind", x.borough(0, 0), kind);
            due("houses", x.borough(0, 1), 9);
            due("seats", x.borough(0, 2), 3);
            due("owner", x.borough(0, 3), 0);
        }
    }

    private static void guineasInTheText() {
        about(4, "GUINEAS (0 to 99)");
        for (int v = 0; v <= 99; v++) {
            due("guineas", taken("lord " + v + ";", 1).lord(0, 0), v);
        }
        refused("lord 100;", 1, 5);
    }

    private static void housesInTheText() {
        about(4, "HOUSES (1 to 9); FAULT 3 a NUMBER out of its bounds");
        for (String kind : KINDS) {
            for (int v = 0; v <= 99; v++) {
                if (v >= 1 && v <= 9) {
                    due("houses", taken(kind + " " + v + " 1;", 1).borough(0, 1), v);
                } else {
                    refused(kind + " " + v + " 1;", 3, kind.length() + 1);
                }
            }
        }
    }

    private static void seatsInTheText() {
        about(4, "SEATS (0 to 3); FAULT 3 a NUMBER out of its bounds");
        for (String kind : KINDS) {
            for (int v = 0; v <= 99; v++) {
                if (v <= 3) {
                    due("seats", taken(kind + " 1 " + v + ";", 1).borough(0, 2), v);
                } else {
                    refused(kind + " 1 " + v + ";", 3, kind.length() + 3);
                }
            }
        }
    }

    private static void ownerInTheText() {
        about(4, "OWNER (0 to 3); FAULT 3 a NUMBER out of its bounds");
        for (int v = 0; v <= 99; v++) {
            String text = FOUR_LORDS + "plain 1 1 " + v + ";";
            if (v <= 3) {
                due("owner", taken(text, 5).borough(0, 3), v);
            } else {
                refused(text, 3, FOUR_LORDS.length() + 10);
            }
        }
    }

    private static void ownerNotTold() {
        about(4, "nobody, if it is not told");
        MoundVotes x = taken("lord 1;plain 1 1 0;plain 1 1;plain 1 1 0;", 4);
        due("owner 0", x.borough(0, 3), 0);
        due("owner 1", x.borough(1, 3), NONE);
        due("of nobody", x.rule(5), 2);
    }

    private static void priceInTheText() {
        about(4, "PRICE (0 to 9); FAULT 3 a NUMBER out of its bounds");
        for (int v = 0; v <= 99; v++) {
            if (v <= 9) {
                due("price", taken("price " + v + ";", 1).rule(2), v);
            } else {
                refused("price " + v + ";", 3, 6);
            }
        }
    }

    private static void theFirstFaultMet() {
        about(5, "the first met as it is read (a TOKEN is read when the one before has been taken)");
        refused("wall@", 2, 0);
        refused("wall 100;", 2, 0);
        refused("5 @", 2, 0);
        refused("lord lord@", 2, 5);
        refused("price 10@", 3, 6);
        refused("price 10 100", 3, 6);
        refused("price 10", 3, 6);
        refused("plain 0@", 3, 6);
        refused("plain 1 4@", 3, 8);
        refused("plain 0 4;", 3, 6);
        refused("plain 1 1 4@", 3, 10);
        refused("lord 1@", 1, 6);
        refused("lord 1 100", 1, 7);
        refused("plain 1 1@", 1, 9);
        refused("plain 1 1 0@", 1, 11);
        refused("lord 1;@", 1, 7);
        refused("price 1;price@", 4, 8);
        refused("price 1;price 10;", 4, 8);
        refused("price 1;price;", 4, 8);
        refused("price 1;prices 1;", 2, 8);
        refused(FOUR_LORDS + "lord@", 5, 28);
        refused(FOUR_LORDS + "lord", 5, 28);
        refused(FOUR_LORDS + "@", 1, 28);
        refused(FOUR_LORDS + "lords", 2, 28);
        refused(SIX_TENTS + "plain 0 4;", 5, 54);
        refused(SIX_TENTS + "plain", 5, 54);
        refused(SIX_TENTS + "plains", 2, 54);
    }

    private static void priceTwice() {
        about(5, "FAULT 4 price for the second time (its NAME)");
        refused("price 1;price 1;", 4, 8);
        refused("price 3;  lord 1; price 3;", 4, 18);
        MoundVotes x = taken("price 1;", 1);
        due("once in each text", tell(x, "lord 1;price 9;"), 2);
        due("refused", tell(x, "price 1;price 1;"), -18);
        due("once in the text behind it", tell(x, "price 0;"), 1);
        due("price", x.rule(2), 0);
    }

    private static void fourLordsAndOneMore() {
        about(5, "LORDS (4 at most); FAULT 5 the 5th lord (its NAME)");
        MoundVotes x = taken(FOUR_LORDS, 4);
        for (int l = 0; l < 4; l++) {
            due("by order", x.lord(l, 0), l + 1);
        }
        due("there is no 5th", x.lord(4, 0), BAD);
        refused(FOUR_LORDS + "lord 1;", 5, 28);
        refused(FOUR_LORDS + "   lord 1;", 5, 31);
        taken(FOUR_LORDS + SIX_TENTS, 10);
        due("a 5th refused, four told anew", tell(x, FOUR_LORDS + "lord 1;"), -38);
        due("again", tell(x, FOUR_LORDS), 4);
    }

    private static void sixBoroughsAndOneMore() {
        about(5, "BOROUGHS (6 at most); FAULT 5 the 7th BOROUGH (its NAME)");
        MoundVotes x = taken("plain 1 1;mound 2 1;tent 3 1;twice 4 1;plain 5 1;mound 6 1;", 6);
        for (int b = 0; b < 6; b++) {
            due("by order", x.borough(b, 1), b + 1);
        }
        due("there is no 7th", x.borough(6, 1), BAD);
        for (String kind : KINDS) {
            refused(SIX_TENTS + kind + " 1 1;", 5, 54);
            refused(SIX_TENTS + "lord 1;" + kind + " 1 1;", 5, 61);
        }
    }

    private static void ownerWithoutALord() {
        about(5, "FAULT 6 a LORD that there is not");
        for (int lords = 0; lords <= 4; lords++) {
            for (int owner = 0; owner <= 3; owner++) {
                String text = FOUR_LORDS.substring(0, 7 * lords) + "tent 1 1 " + owner + ";";
                if (owner < lords) {
                    taken(text, lords + 1);
                } else {
                    refused(text, 6, text.length());
                }
            }
        }
        String sixth = "tent 1 1;tent 1 1;tent 1 1;tent 1 1;tent 1 1;tent 1 1 1;lord 1;";
        refused(sixth, 6, sixth.length());
    }

    private static void behindAll() {
        about(5, "Behind all (the length)");
        taken("plain 1 1 3;" + FOUR_LORDS, 5);
        refused("plain 1 1 0;  ", 6, 14);
        refused("plain 1 1 1;lord 5;", 6, 19);
        refused("plain 1 1 0;@", 1, 12);
        refused("plain 1 1 0;wall", 2, 12);
        refused("plain 1 1 0;price", 2, 17);
        refused("plain 1 1 0;price 10;", 3, 18);
        refused("plain 1 1 3;" + "lord 1;lord 1;lord 1;", 6, 33);
    }

    // ---- a text that is taken, or not

    private static void takenTextTellsAll() {
        about(4, "A text that is taken tells all, in place of what there was");
        MoundVotes x = of(MOST);
        due("less", tell(x, "lord 5;plain 2 1;"), 2);
        due("lords", x.rule(0), 1);
        due("boroughs", x.rule(1), 1);
        due("price", x.rule(2), 3);
        due("guineas", x.rule(4), 5);
        due("owner", x.borough(0, 3), NONE);
        due("his boroughs", x.lord(0, 1), 0);
        due("lord 1", x.lord(1, 0), BAD);
        due("borough 1", x.borough(1, 0), BAD);
        due("more again", tell(x, MOST), 11);
        due("seats", x.rule(3), 18);
    }

    private static void takenTextHasNothingSeen() {
        about(4, "nothing is SEEN");
        MoundVotes x = of(TOWN);
        for (int i = 0; i < 6; i++) {
            x.see(0, true);
        }
        due("none can be", x.owners(0), 0);
        tell(x, TOWN);
        due("seen", x.count(0), 0);
        due("all can be", x.owners(0), 23);
        due("the first again", x.see(0, false), 1);
    }

    private static void takenTextHasNoImages() {
        about(4, "IMAGES are gone");
        MoundVotes x = of(TOWN);
        x.keep(0);
        x.keep(1);
        tell(x, TOWN);
        due("images", x.count(1), 0);
        due("back 0", x.back(0), STATE);
        due("back 1", x.back(1), STATE);
        due("keep 0", x.keep(0), 0);
        due("keep 1", x.keep(1), 0);
    }

    private static void refusedTextLeavesWhatWasTold() {
        about(4, "that which was told stays");
        String[] texts = {"lord 1;@", "lord 1;;", "price 10;", "price 1;price 1;", FOUR_LORDS + "lord 5;",
            SIX_TENTS + "tent 1 1;", "lord 1;plain 1 1 3;"};
        for (String text : texts) {
            MoundVotes x = of(TOWN);
            x.see(5, true);
            x.keep(0);
            due("refused", Math.max(tell(x, text), -10), -10);
            int[] rules = {3, 6, 2, 9, 142, 20, 32};
            for (int what = 0; what < rules.length; what++) {
                due("rule " + what, x.rule(what), rules[what]);
            }
            due("seen", x.count(0), 1);
            due("owners", x.owners(2), 5);
            due("images", x.count(1), 1);
            due("back", x.back(0), 142);
        }
    }
}
