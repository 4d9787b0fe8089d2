/** Who owned what (promises 27 to 31): each sentence that names a boundary has a test of its own. */
public final class SeenEdgeTest extends Checks {
    private static final int[] FAR = {Integer.MIN_VALUE, -1000, -2, -1, 1000, Integer.MAX_VALUE};
    /** Four seats, of which lord 0 has two, lord 1 one, nobody one. */
    private static final String FOUR_SEATS = "lord 1;lord 1;plain 1 2 0;plain 1 1 1;plain 1 1;";

    public static void main(String[] args) {
        seeCountsToSix(); oneMoreIsFull(); seeOfNoneAndAllLords(); seeBounds();
        forgetNoneToAll(); forgetKeepsTheFirst(); forgetBounds(); seeBehindForget();
        ownersWithNothingSeen(); ownersAsSeen(); ownersByNone(); ownersAllElseAsItIs(); ownersBounds();
        seatsWithNothingSeen(); seatsAsSeen(); seatsByNone(); seatsBounds();
        askByHalves(); askWithoutLords(); askFewerThanNow(); askBehindWhatIsSeen(); askTheLeast(); askBounds();
        finish();
    }

    private static MoundVotes seen(String text, int some, boolean carried) {
        MoundVotes x = of(text);
        x.see(some, carried);
        return x;
    }

    // ---- promise 27

    private static void seeCountsToSix() {
        about(27, "SEEN: how many are");
        MoundVotes x = of(TOWN);
        for (int i = 1; i <= 6; i++) {
            due("see", x.see(i, false), i);
            due("seen", x.count(0), i);
        }
    }

    private static void oneMoreIsFull() {
        about(27, "SEEN (6); FULL");
        MoundVotes x = of(TOWN);
        for (int i = 0; i < 6; i++) {
            x.see(0, false);
        }
        due("the 7th", x.see(0, true), FULL);
        due("seen", x.count(0), 6);
        due("it is not seen", x.owners(0), 23);
        due("BAD ahead of FULL", x.see(8, true), BAD);
        due("BAD ahead of FULL", x.see(-1, true), BAD);
        due("the 7th again", x.see(7, true), FULL);
    }

    private static void seeOfNoneAndAllLords() {
        about(27, "LORDS (bits)");
        due("none of none", new MoundVotes().see(0, false), 1);
        due("none of four", of(MOST).see(0, false), 1);
        due("all of four", of(MOST).see(15, true), 1);
    }

    private static void seeBounds() {
        about(27, "BAD");
        String lords = "lord 1;lord 1;lord 1;lord 1;";
        for (int n = 0; n <= 4; n++) {
            MoundVotes x = of(lords.substring(0, 7 * n));
            due("the last set of " + n, x.see((1 << n) - 1, true), 1);
            due("one more of " + n, x.see(1 << n, true), BAD);
            due("seen", x.count(0), 1);
        }
        for (int far : FAR) {
            due("some " + far, of(MOST).see(far, true), BAD);
        }
    }

    // ---- promise 28

    private static void forgetNoneToAll() {
        about(28, "SEEN are the first n alone: how many there were");
        for (int n = 0; n <= 6; n++) {
            MoundVotes x = of(TOWN);
            for (int i = 0; i < 6; i++) {
                x.see(0, false);
            }
            due("forget " + n, x.forget(n), 6);
            due("seen", x.count(0), n);
            due("forget none", x.forget(n), n);
        }
        due("nothing seen", new MoundVotes().forget(0), 0);
    }

    private static void forgetKeepsTheFirst() {
        about(28, "the first n alone");
        MoundVotes x = of(FOUR_SEATS);
        x.see(3, true);
        x.see(1, true);
        x.see(0, true);
        due("all three", x.owners(2), 0);
        x.forget(2);
        due("the first two", x.owners(2), 1);
        x.forget(1);
        due("the first", x.owners(2), 19);
        x.forget(0);
        due("none", x.owners(2), 19);
        due("the first is gone", x.seats(2), 15);
    }

    private static void forgetBounds() {
        about(28, "BAD");
        MoundVotes x = seen(TOWN, 5, true);
        int[] bad = {2, 6, 7};
        for (int n : bad) {
            due("forget " + n, x.forget(n), BAD);
            due("seen stays", x.count(0), 1);
        }
        for (int far : FAR) {
            due("forget " + far, x.forget(far), BAD);
        }
        due("what was seen stays", x.owners(2), 5);
        due("nothing seen, 1", new MoundVotes().forget(1), BAD);
    }

    private static void seeBehindForget() {
        about(28, "the first n alone");
        MoundVotes x = of(FOUR_SEATS);
        for (int i = 0; i < 6; i++) {
            x.see(0, true);
        }
        due("forget", x.forget(0), 6);
        for (int i = 1; i <= 6; i++) {
            due("room again", x.see(1, false), i);
        }
        due("full again", x.see(1, false), FULL);
        due("only what came behind", x.owners(2), 18);
    }

    // ---- promise 29

    private static void ownersWithNothingSeen() {
        about(29, "Who may be OWNER (bits; 16 more: nobody): nothing SEEN");
        String lords = "lord 1;lord 1;lord 1;lord 1;";
        for (int n = 0; n <= 4; n++) {
            due("of " + n + " lords", of(lords.substring(0, 7 * n) + "plain 1 1;").owners(0), (1 << n) - 1 + 16);
        }
        due("the 6th", of(MOST).owners(5), 31);
    }

    private static void ownersAsSeen() {
        about(29, "so that all is as SEEN");
        int[] carried = {0, 1, 0, 19};
        int[] not = {19, 18, 19, 0};
        for (int some = 0; some < 4; some++) {
            due("carried " + some, seen(FOUR_SEATS, some, true).owners(2), carried[some]);
            due("not " + some, seen(FOUR_SEATS, some, false).owners(2), not[some]);
        }
        MoundVotes x = of("lord 1;lord 1;lord 1;lord 1;plain 1 1 0;");
        x.see(15, false);
        due("nobody alone", x.owners(0), 16);
        x.forget(0);
        x.see(8, true);
        due("the last lord alone", x.owners(0), 8);
        x.forget(0);
        x.see(7, true);
        due("all others", x.owners(0), 7);
    }

    private static void ownersByNone() {
        about(29, "so that all is as SEEN: by none");
        MoundVotes x = of(FOUR_SEATS);
        x.see(1, true);
        x.see(1, false);
        for (int b = 0; b < 3; b++) {
            due("borough " + b, x.owners(b), 0);
        }
    }

    private static void ownersAllElseAsItIs() {
        about(29, "all else as it is");
        MoundVotes x = seen(FOUR_SEATS, 1, true);
        due("borough 0", x.owners(0), 0);
        due("borough 1", x.owners(1), 1);
        due("borough 2", x.owners(2), 1);
        int[] owner = {0, 1, NONE};
        for (int b = 0; b < 3; b++) {
            due("the owner stays", x.borough(b, 3), owner[b]);
        }
        x.give(2, 0);
        due("now it is so, borough 0", x.owners(0), 1);
        due("now it is so, borough 1", x.owners(1), 19);
    }

    private static void ownersBounds() {
        about(29, "BAD");
        due("the last", of(FOUR_SEATS).owners(2), 19);
        due("one more", of(FOUR_SEATS).owners(3), BAD);
        due("the 7th", of(MOST).owners(6), BAD);
        due("no boroughs", of("lord 1;").owners(0), BAD);
        for (int far : FAR) {
            due("borough " + far, of(MOST).owners(far), BAD);
        }
    }

    // ---- promise 30

    private static void seatsWithNothingSeen() {
        about(30, "SEATS (0 to 3; bits): nothing SEEN");
        for (int b = 0; b < 6; b++) {
            due("borough " + b, of(MOST).seats(b), 15);
        }
    }

    private static void seatsAsSeen() {
        about(30, "that a BOROUGH may have, all else as it is, so that all is as SEEN");
        int[] carriedOfNobody = {0, 1, 0, 7};
        int[] carriedOfLord0 = {0, 12, 1, 15};
        for (int some = 0; some < 4; some++) {
            due("of nobody, carried " + some, seen(FOUR_SEATS, some, true).seats(2), carriedOfNobody[some]);
            due("of nobody, not " + some, seen(FOUR_SEATS, some, false).seats(2), 15 - carriedOfNobody[some]);
        }
        String three = "lord 1;lord 1;plain 1 2 0;plain 1 1 1;plain 1 0;";
        for (int some = 0; some < 4; some++) {
            due("of lord 0, carried " + some, seen(three, some, true).seats(0), carriedOfLord0[some]);
            due("of lord 0, not " + some, seen(three, some, false).seats(0), 15 - carriedOfLord0[some]);
        }
        MoundVotes x = seen(FOUR_SEATS, 1, true);
        x.seats(2);
        due("the seats stay", x.borough(2, 2), 1);
    }

    private static void seatsByNone() {
        about(30, "so that all is as SEEN: by none");
        MoundVotes x = seen(FOUR_SEATS, 0, true);
        for (int b = 0; b < 3; b++) {
            due("borough " + b, x.seats(b), 0);
        }
    }

    private static void seatsBounds() {
        about(30, "BAD");
        due("the last", of(FOUR_SEATS).seats(2), 15);
        due("one more", of(FOUR_SEATS).seats(3), BAD);
        due("the 7th", of(MOST).seats(6), BAD);
        due("no boroughs", of("lord 1;").seats(0), BAD);
        for (int far : FAR) {
            due("borough " + far, of(MOST).seats(far), BAD);
        }
    }

    // ---- promise 31

    private static void asked(String what, MoundVotes x, int b, int some, int left) {
        due(what + ": whom", x.ask(b, 0), some);
        due(what + ": left", x.ask(b, 1), left);
    }

    private static void askByHalves() {
        about(31, "so that of owners() of a BOROUGH fewest are left at the worst");
        int[] some = {NONE, 1, 1, 3, 3};
        int[] left = {NONE, 1, 2, 2, 3};
        String lords = "lord 1;lord 1;lord 1;lord 1;";
        for (int n = 0; n <= 4; n++) {
            asked(n + " lords", of(lords.substring(0, 7 * n) + "plain 1 1;"), 0, some[n], left[n]);
        }
    }

    private static void askWithoutLords() {
        about(31, "Which LORDS (bits, one at least); NONE: none");
        asked("no lords", of("plain 1 1;"), 0, NONE, NONE);
        MoundVotes x = of("plain 1 1;");
        x.see(0, true);
        asked("no lords, none can be", x, 0, NONE, NONE);
    }

    private static void askFewerThanNow() {
        about(31, "fewer than now; NONE: none");
        asked("without seats", of("lord 1;lord 1;plain 1 0;plain 1 1;"), 0, NONE, NONE);
        asked("too few seats", of("lord 1;lord 1;plain 1 1;plain 1 3;"), 0, NONE, NONE);
        asked("he carries without it", of("lord 1;plain 1 3 0;plain 1 1;"), 1, NONE, NONE);
        MoundVotes x = of(FOUR_SEATS);
        x.see(0, true);
        asked("none can be", x, 2, NONE, NONE);
        asked("one can be", seen(FOUR_SEATS, 1, true), 2, NONE, NONE);
    }

    private static void askBehindWhatIsSeen() {
        about(31, "of owners() of a BOROUGH");
        MoundVotes x = of("lord 1;lord 1;lord 1;lord 1;plain 1 1;");
        x.see(7, false);
        due("the last or nobody", x.owners(0), 24);
        asked("the last or nobody", x, 0, 8, 1);
        x.forget(0);
        x.see(12, true);
        asked("one of the last two", x, 0, 4, 1);
    }

    private static void askTheLeast() {
        about(31, "the least");
        // Lord 0 carries if it is his, and else nobody does: lord 1 alone has too little with it.
        asked("only lord 0 tells", of(FOUR_SEATS), 2, 1, 2);
        asked("not the first", of("lord 1;lord 1;plain 1 2 1;plain 1 1 0;plain 1 1;"), 2, 2, 2);
    }

    private static void askBounds() {
        about(31, "BAD");
        MoundVotes x = of(FOUR_SEATS);
        due("the last", x.ask(2, 0), 1);
        due("one more", x.ask(3, 0), BAD);
        due("what 2", x.ask(2, 2), BAD);
        due("no boroughs", of("lord 1;").ask(0, 0), BAD);
        due("BAD ahead of NONE", of("plain 1 1;").ask(0, 2), BAD);
        due("BAD ahead of NONE", of("plain 1 1;").ask(1, 0), BAD);
        for (int far : FAR) {
            due("borough " + far, x.ask(far, 0), BAD);
            due("what " + far, x.ask(2, far), BAD);
        }
    }
}
