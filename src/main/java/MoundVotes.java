/** A parliament of boroughs that lords own and buy; ../shared/DOC.md has its promises. */
public final class MoundVotes {
    public static final int BAD = -1, STATE = -2, FULL = -3, NONE = -4;

    private static final int MOST_LORDS = 4;
    private static final int MOST_BOROUGHS = 6;
    private static final int MOST_GUINEAS = 99;
    private static final int MOST_HOUSES = 9;
    private static final int MOST_SEATS = 3;
    private static final int MOST_PRICE = 9;
    private static final int FIRST_PRICE = 3;
    private static final int LAST_KIND = 3;
    private static final int MOST_SEEN = 6;
    private static final int MOST_IMAGES = 2;
    private static final int MOST_SHEETS = 4;
    private static final int MOST_CELLS = 40;
    private static final int LAST_LANE = 2;
    private static final int MOST_READ = 20;
    private static final int MOST_DRIFT = 60;
    private static final int ODDS = 10;
    private static final int NOBODY_BIT = 16;
    private static final int FOUND_NULL = 1;
    private static final int FOUND_INDEX = 2;
    private static final int FOUND_CAST = 3;
    private static final int FOUND_SIZE = 4;

    private final Realm realm = new Realm();
    /** A second realm to work on, so that what is refused leaves the first as it was. */
    private final Realm trial = new Realm();
    private final Realm[] images = new Realm[MOST_IMAGES];
    private final boolean[] kept = new boolean[MOST_IMAGES];
    private final Reader reader = new Reader();
    private final Tape tape = reader.tape;
    private final Players players = new Players();
    private final Witness witness = new Witness();
    private final Smallness smallness = new Smallness();
    private final Sheet[] sheets = new Sheet[MOST_SHEETS];
    private int latestTear;

    public MoundVotes() {
        for (int k = 0; k < MOST_IMAGES; k++) {
            images[k] = new Realm();
        }
        for (int k = 0; k < MOST_SHEETS; k++) {
            sheets[k] = new Sheet();
        }
    }

    // ---- the text, what there is

    public int feed(int c) {
        if (!within(c, 0, 127)) {
            return BAD;
        }
        return tape.add(c) ? tape.length : FULL;
    }

    public int end(int n) {
        if (!within(n, 0, tape.length)) {
            return BAD;
        }
        int had = tape.length;
        tape.length = n;
        return had;
    }

    public int text() {
        int lines = reader.tellAll();
        tape.length = 0;
        if (reader.met != 0) {
            return -10 - reader.metAt;
        }
        realm.copyFrom(reader.draft);
        witness.size = 0;
        for (int k = 0; k < MOST_IMAGES; k++) {
            kept[k] = false;
        }
        return lines;
    }

    public int fault() {
        return reader.met;
    }

    public int rule(int what) {
        switch (what) {
            case 0: return realm.lords;
            case 1: return realm.boroughs;
            case 2: return realm.votePrice;
            case 3: return realm.seatsIn(realm.everyBorough());
            case 4: return realm.allGuineas();
            case 5: return realm.ownerless();
            case 6: return realm.seatless();
            default: return BAD;
        }
    }

    public int lord(int l, int what) {
        if (!realm.hasLord(l)) {
            return BAD;
        }
        switch (what) {
            case 0: return realm.guineas[l];
            case 1: return realm.heldBy(1 << l);
            case 2: return realm.seatsIn(realm.heldBy(1 << l));
            default: return BAD;
        }
    }

    public int borough(int b, int what) {
        if (!realm.hasBorough(b)) {
            return BAD;
        }
        switch (what) {
            case 0: return realm.kind[b];
            case 1: return realm.houses[b];
            case 2: return realm.members[b];
            case 3: return realm.owner[b];
            case 4: return realm.votesOf(b);
            case 5: return realm.costOf(b);
            default: return BAD;
        }
    }

    // ---- what is changed

    public int alter(int b, int what, int v) {
        if (!realm.hasBorough(b)) {
            return BAD;
        }
        switch (what) {
            case 0: return within(v, 0, LAST_KIND) ? swap(realm.kind, b, v) : BAD;
            case 1: return within(v, 1, MOST_HOUSES) ? swap(realm.houses, b, v) : BAD;
            case 2: return within(v, 0, MOST_SEATS) ? swap(realm.members, b, v) : BAD;
            default: return BAD;
        }
    }

    public int give(int b, int l) {
        if (!realm.hasBorough(b) || l != NONE && !realm.hasLord(l)) {
            return BAD;
        }
        return swap(realm.owner, b, l);
    }

    public int purse(int l, int v) {
        if (!realm.hasLord(l) || !within(v, 0, MOST_GUINEAS)) {
            return BAD;
        }
        return swap(realm.guineas, l, v);
    }

    public int price(int v) {
        if (!within(v, 0, MOST_PRICE)) {
            return BAD;
        }
        int was = realm.votePrice;
        realm.votePrice = v;
        return was;
    }

    public int buy(int l, int b) {
        if (!realm.hasLord(l) || !realm.hasBorough(b)) {
            return BAD;
        }
        return realm.sell(l, b) ? realm.guineas[l] : STATE;
    }

    public int take(int n) {
        if (!within(n, 0, MOST_BOROUGHS)) {
            return BAD;
        }
        smallness.rank(realm);
        if (n > smallness.size) {
            return NONE;
        }
        int taken = smallness.first(n);
        for (int b = 0; b < realm.boroughs; b++) {
            if (holds(taken, b)) {
                realm.members[b] = 0;
            }
        }
        return taken;
    }

    // ---- what passes

    public int carry(int some, int what) {
        if (!realm.hasLords(some)) {
            return BAD;
        }
        switch (what) {
            case 0: return realm.seatsIn(realm.heldBy(some));
            case 1: return realm.carries(some) ? 1 : 0;
            default: return BAD;
        }
    }

    public int swings(int l) {
        if (!realm.hasLord(l)) {
            return BAD;
        }
        players.gather(realm);
        return players.swingsOf(l);
    }

    public long share(int l, int what) {
        if (!realm.hasLord(l) || !within(what, 0, 1)) {
            return BAD;
        }
        players.gather(realm);
        return fraction(players.shareOf(l), Players.WHOLE, what);
    }

    public long alone(int b, int what) {
        if (!realm.hasBorough(b) || !within(what, 0, 1)) {
            return BAD;
        }
        if (realm.owner[b] != NONE) {
            return STATE;
        }
        players.gather(realm);
        int ahead = Integer.bitCount(realm.ownerless() & (1 << b) - 1);
        return fraction(players.shareOf(realm.lords + ahead), Players.WHOLE, what);
    }

    // ---- what is best

    public int cheap(int l, int what) {
        if (!realm.hasLord(l) || !within(what, 0, 1)) {
            return BAD;
        }
        int his = realm.heldBy(1 << l);
        int set = realm.cheapestMajority(realm.everyBorough() & ~his, realm.seatsIn(his));
        return costOrSet(set, what);
    }

    public int able(int l) {
        if (!realm.hasLord(l)) {
            return BAD;
        }
        int set = 0;
        for (int b = 0; b < realm.boroughs; b++) {
            if (realm.canBuy(l, b)) {
                set |= 1 << b;
            }
        }
        return set;
    }

    public int climb(int l) {
        if (!realm.hasLord(l)) {
            return BAD;
        }
        players.gather(realm);
        int most = players.shareOf(l);
        int best = NONE;
        for (int b = 0; b < realm.boroughs; b++) {
            if (realm.canBuy(l, b)) {
                trial.copyFrom(realm);
                trial.owner[b] = l;
                players.gather(trial);
                int reached = players.shareOf(l);
                if (reached > most) {
                    most = reached;
                    best = b;
                }
            }
        }
        return best;
    }

    public int small(int i) {
        if (!within(i, 0, MOST_BOROUGHS - 1)) {
            return BAD;
        }
        smallness.rank(realm);
        return i < smallness.size ? smallness.order[i] : NONE;
    }

    public int line(int n) {
        if (!within(n, 1, MOST_BOROUGHS - 1)) {
            return BAD;
        }
        smallness.rank(realm);
        if (n >= smallness.size) {
            return NONE;
        }
        return realm.votesOf(smallness.order[n - 1]) != realm.votesOf(smallness.order[n]) ? 1 : 0;
    }

    public int bribe(int n, int what) {
        if (!within(n, 0, MOST_BOROUGHS) || !within(what, 0, 1)) {
            return BAD;
        }
        smallness.rank(realm);
        if (n > smallness.size) {
            return NONE;
        }
        int against = smallness.first(n);
        int others = realm.everyBorough() & ~against;
        return costOrSet(realm.cheapestMajority(against, realm.seatsIn(others)), what);
    }

    // ---- who stays away

    public long luck(int v, int some, int what) {
        if (!within(v, 0, ODDS) || !realm.hasLords(some) || !within(what, 0, 1)) {
            return BAD;
        }
        int every = realm.everyBorough();
        int theirs = realm.heldBy(some);
        long top = 0;
        for (int there = 0; there <= every; there++) {
            if (2 * realm.seatsIn(there & theirs) > realm.seatsIn(there)) {
                int present = Integer.bitCount(there);
                top += power(ODDS - v, present) * power(v, realm.boroughs - present);
            }
        }
        return fraction(top, power(ODDS, realm.boroughs), what);
    }

    public long mean(int v, int some, int what) {
        if (!within(v, 0, ODDS) || !realm.hasLords(some) || !within(what, 0, 1)) {
            return BAD;
        }
        return fraction((ODDS - v) * realm.seatsIn(realm.heldBy(some)), ODDS, what);
    }

    // ---- who owned what

    public int see(int some, boolean carried) {
        if (!realm.hasLords(some)) {
            return BAD;
        }
        return witness.add(some, carried) ? witness.size : FULL;
    }

    public int forget(int n) {
        if (!within(n, 0, witness.size)) {
            return BAD;
        }
        int had = witness.size;
        witness.size = n;
        return had;
    }

    public int owners(int b) {
        return realm.hasBorough(b) ? possibleOwners(b) : BAD;
    }

    public int seats(int b) {
        if (!realm.hasBorough(b)) {
            return BAD;
        }
        trial.copyFrom(realm);
        int possible = 0;
        for (int s = 0; s <= MOST_SEATS; s++) {
            trial.members[b] = s;
            if (witness.fits(trial)) {
                possible |= 1 << s;
            }
        }
        return possible;
    }

    public int ask(int b, int what) {
        if (!realm.hasBorough(b) || !within(what, 0, 1)) {
            return BAD;
        }
        int possible = possibleOwners(b);
        int now = Integer.bitCount(possible);
        int fewest = now;
        int best = NONE;
        for (int some = 1; some <= realm.everyLord(); some++) {
            int carrying = ownersThatCarry(b, possible, some);
            int left = Math.max(carrying, now - carrying);
            if (left < fewest) {
                fewest = left;
                best = some;
            }
        }
        return best == NONE || what == 0 ? best : fewest;
    }

    // ---- by a seed

    public int drift(int seed, int n, int what) {
        if (!within(n, 1, MOST_DRIFT) || !within(what, 0, 1)) {
            return BAD;
        }
        if (realm.lords <= 0 || realm.boroughs <= 0) {
            return STATE;
        }
        trial.copyFrom(realm);
        int state = seed;
        int sales = 0;
        for (int i = 0; i < n; i++) {
            state = nextSeed(state);
            int l = drawn(state) % realm.lords;
            state = nextSeed(state);
            int b = drawn(state) % realm.boroughs;
            if (trial.sell(l, b)) {
                sales++;
            }
        }
        return what == 0 ? sales : trial.allGuineas();
    }

    // ---- images, sheets

    public int keep(int k) {
        if (!within(k, 0, MOST_IMAGES - 1)) {
            return BAD;
        }
        int was = kept[k] ? 1 : 0;
        images[k].copyFrom(realm);
        kept[k] = true;
        return was;
    }

    public int back(int k) {
        if (!within(k, 0, MOST_IMAGES - 1)) {
            return BAD;
        }
        if (!kept[k]) {
            return STATE;
        }
        realm.copyFrom(images[k]);
        return realm.allGuineas();
    }

    public int sheet(int k, int lane, int n) {
        if (!within(k, 0, MOST_SHEETS - 1) || !within(lane, 0, LAST_LANE) || n > MOST_CELLS) {
            return BAD;
        }
        if (n < 0) {
            return -10 - FOUND_SIZE;
        }
        sheets[k].renew(lane, n);
        return 1;
    }

    public int lay(int k, int i, int v) {
        if (!within(k, 0, MOST_SHEETS - 1)) {
            return BAD;
        }
        int found = sheets[k].faultAt(i);
        if (found != 0) {
            return -10 - found;
        }
        sheets[k].put(i, v);
        return 1;
    }

    public int read(int k, int lane, int f, int n) {
        if (!within(k, 0, MOST_SHEETS - 1) || !within(lane, 0, LAST_LANE) || !within(n, 0, MOST_READ)) {
            return BAD;
        }
        Sheet page = sheets[k];
        trial.copyFrom(realm);
        int bought = 0;
        int found = 0;
        for (int i = 0; i < n && found == 0; i++) {
            found = page.faultOfPair(lane, f + 2 * i);
            if (found == 0) {
                if (!trial.sell(page.cellAt(f + 2 * i), page.cellAt(f + 2 * i + 1))) {
                    return -20 - i;
                }
                bought++;
            }
        }
        realm.copyFrom(trial);
        latestTear = found;
        return bought;
    }

    public int torn() {
        return latestTear;
    }

    public int count(int what) {
        switch (what) {
            case 0: return witness.size;
            case 1: return (kept[0] ? 1 : 0) + (kept[1] ? 1 : 0);
            case 2: return tape.length;
            case 3: return sheets[0].size;
            case 4: return realm.allVotes();
            case 5: return realm.lords + Integer.bitCount(realm.ownerless());
            default: return BAD;
        }
    }

    private int costOrSet(int set, int what) {
        return set == NONE || what == 1 ? set : realm.costOfAll(set);
    }

    private int possibleOwners(int b) {
        trial.copyFrom(realm);
        int possible = 0;
        for (int i = 0; i <= MOST_LORDS; i++) {
            if (isCandidate(i)) {
                trial.owner[b] = candidate(i);
                if (witness.fits(trial)) {
                    possible |= 1 << i;
                }
            }
        }
        return possible;
    }

    private int ownersThatCarry(int b, int possible, int some) {
        trial.copyFrom(realm);
        int carrying = 0;
        for (int i = 0; i <= MOST_LORDS; i++) {
            if (holds(possible, i)) {
                trial.owner[b] = candidate(i);
                if (trial.carries(some)) {
                    carrying++;
                }
            }
        }
        return carrying;
    }

    private boolean isCandidate(int i) {
        return realm.hasLord(i) || 1 << i == NOBODY_BIT;
    }

    /** Nobody has the bit behind the last lord that there may be, whether or not there are so many. */
    private static int candidate(int i) {
        return 1 << i == NOBODY_BIT ? NONE : i;
    }

    private static boolean within(int v, int low, int high) {
        return v >= low && v <= high;
    }

    private static boolean holds(int set, int i) {
        return (set >> i & 1) == 1;
    }

    private static int swap(int[] row, int i, int v) {
        if (!within(i, 0, row.length - 1)) {
            return BAD;
        }
        int was = row[i];
        row[i] = v;
        return was;
    }

    private static int nextSeed(int seed) {
        return seed * 1103515245 + 12345;
    }

    private static int drawn(int seed) {
        return seed >>> 16 & 32767;
    }

    private static long power(int base, int exponent) {
        long product = 1;
        for (int i = 0; i < exponent; i++) {
            product *= base;
        }
        return product;
    }

    private static long fraction(long top, long bottom, int what) {
        long common = commonDivisor(top, bottom);
        return common <= 0 ? 0 : (what == 0 ? top : bottom) / common;
    }

    private static long commonDivisor(long first, long second) {
        long a = first;
        long b = second;
        // Euclid needs fewer than 93 steps for any two longs.
        for (int i = 0; i < 100 && b != 0; i++) {
            long rest = a % b;
            a = b;
            b = rest;
        }
        return a;
    }

    /** LORDS, BOROUGHS and PRICE: what a text tells and what an image is. Sets are bits. */
    private static final class Realm {
        private int lords;
        private int boroughs;
        private int votePrice = FIRST_PRICE;
        private final int[] guineas = new int[MOST_LORDS];
        private final int[] kind = new int[MOST_BOROUGHS];
        private final int[] houses = new int[MOST_BOROUGHS];
        private final int[] members = new int[MOST_BOROUGHS];
        private final int[] owner = new int[MOST_BOROUGHS];

        void empty() {
            lords = 0;
            boroughs = 0;
            votePrice = FIRST_PRICE;
        }

        void copyFrom(Realm other) {
            lords = other.lords;
            boroughs = other.boroughs;
            votePrice = other.votePrice;
            for (int l = 0; l < MOST_LORDS; l++) {
                guineas[l] = other.guineas[l];
            }
            for (int b = 0; b < MOST_BOROUGHS; b++) {
                kind[b] = other.kind[b];
                houses[b] = other.houses[b];
                members[b] = other.members[b];
                owner[b] = other.owner[b];
            }
        }

        void addLord(int itsGuineas) {
            if (lords < MOST_LORDS) {
                guineas[lords] = itsGuineas;
                lords++;
            }
        }

        void addBorough(int itsKind, int itsHouses, int itsMembers, int itsOwner) {
            if (boroughs < MOST_BOROUGHS) {
                kind[boroughs] = itsKind;
                houses[boroughs] = itsHouses;
                members[boroughs] = itsMembers;
                owner[boroughs] = itsOwner;
                boroughs++;
            }
        }

        boolean hasLord(int l) {
            return l >= 0 && l < lords;
        }

        boolean hasBorough(int b) {
            return b >= 0 && b < boroughs;
        }

        boolean hasLords(int some) {
            return some >= 0 && some <= everyLord();
        }

        int everyLord() {
            return (1 << lords) - 1;
        }

        int everyBorough() {
            return (1 << boroughs) - 1;
        }

        int allGuineas() {
            int sum = 0;
            for (int l = 0; l < lords; l++) {
                sum += guineas[l];
            }
            return sum;
        }

        int allVotes() {
            int sum = 0;
            for (int b = 0; b < boroughs; b++) {
                sum += votesOf(b);
            }
            return sum;
        }

        int ownerless() {
            int set = 0;
            for (int b = 0; b < boroughs; b++) {
                if (owner[b] == NONE) {
                    set |= 1 << b;
                }
            }
            return set;
        }

        int seatless() {
            int set = 0;
            for (int b = 0; b < boroughs; b++) {
                if (members[b] == 0) {
                    set |= 1 << b;
                }
            }
            return set;
        }

        int heldBy(int some) {
            int set = 0;
            for (int b = 0; b < boroughs; b++) {
                if (owner[b] != NONE && holds(some, owner[b])) {
                    set |= 1 << b;
                }
            }
            return set;
        }

        int seatsIn(int set) {
            int sum = 0;
            for (int b = 0; b < boroughs; b++) {
                if (holds(set, b)) {
                    sum += members[b];
                }
            }
            return sum;
        }

        int votesOf(int b) {
            if (!hasBorough(b)) {
                return 0;
            }
            int half = (houses[b] + 1) / 2;
            switch (kind[b]) {
                case 0: return houses[b];
                case 1: return half;
                case 2: return half + 1;
                default: return houses[b] + half;
            }
        }

        int costOf(int b) {
            return votePrice * votesOf(b);
        }

        int costOfAll(int set) {
            int sum = 0;
            for (int b = 0; b < boroughs; b++) {
                if (holds(set, b)) {
                    sum += costOf(b);
                }
            }
            return sum;
        }

        boolean carries(int some) {
            return 2 * seatsIn(heldBy(some)) > seatsIn(everyBorough());
        }

        boolean canBuy(int l, int b) {
            return hasLord(l) && hasBorough(b) && owner[b] != l && guineas[l] >= costOf(b);
        }

        boolean sell(int l, int b) {
            if (!canBuy(l, b)) {
                return false;
            }
            int paid = costOf(b);
            int seller = owner[b];
            guineas[l] -= paid;
            if (hasLord(seller)) {
                guineas[seller] = Math.min(guineas[seller] + paid, MOST_GUINEAS);
            }
            owner[b] = l;
            return true;
        }

        /** The cheapest set out of some that is a majority with other seats, the least of several; or NONE. */
        int cheapestMajority(int outOf, int otherSeats) {
            int all = seatsIn(everyBorough());
            int best = NONE;
            int least = 0;
            for (int set = 0; set <= everyBorough(); set++) {
                if ((set & ~outOf) == 0 && 2 * (otherSeats + seatsIn(set)) > all) {
                    int paid = costOfAll(set);
                    if (best == NONE || paid < least) {
                        best = set;
                        least = paid;
                    }
                }
            }
            return best;
        }
    }

    /** PLAYERS with their seats; sets of them are counted by size and seats, not gone through one by one. */
    private static final class Players {
        /** Shares are parts of 10!, which the orders of 1 to 10 players all divide: so they compare as they are. */
        private static final int WHOLE = 3628800;
        private static final int MOST = MOST_LORDS + MOST_BOROUGHS;
        private static final int MOST_SUM = MOST_BOROUGHS * MOST_SEATS;
        private static final int WIDTH = MOST_SUM + 1;
        private static final int[] ORDERS = {1, 1, 2, 6, 24, 120, 720, 5040, 40320, 362880, 3628800};
        /** WHOLE by ORDERS, written out so that nothing is divided. */
        private static final int[] PARTS = {3628800, 3628800, 1814400, 604800, 151200, 30240, 5040, 720, 90, 10, 1};

        private final int[] weight = new int[MOST];
        private final int[] sets = new int[MOST * WIDTH];
        private int size;
        private int all;

        void gather(Realm realm) {
            size = 0;
            all = realm.seatsIn(realm.everyBorough());
            for (int l = 0; l < realm.lords; l++) {
                add(realm.seatsIn(realm.heldBy(1 << l)));
            }
            for (int b = 0; b < realm.boroughs; b++) {
                if (realm.owner[b] == NONE) {
                    add(realm.members[b]);
                }
            }
        }

        private void add(int seatsOfOne) {
            if (size < MOST) {
                weight[size] = seatsOfOne;
                size++;
            }
        }

        int swingsOf(int p) {
            if (!within(p, 0, size - 1)) {
                return 0;
            }
            countSetsWithout(p);
            int sum = 0;
            for (int others = 0; others < size; others++) {
                sum += decided(p, others);
            }
            return sum;
        }

        int shareOf(int p) {
            if (!within(p, 0, size - 1)) {
                return 0;
            }
            countSetsWithout(p);
            int orders = 0;
            for (int others = 0; others < size; others++) {
                orders += decided(p, others) * ORDERS[others] * ORDERS[size - 1 - others];
            }
            return orders * PARTS[size];
        }

        /** How many sets of so many others lose without a player and win with him. */
        private int decided(int p, int others) {
            int sum = 0;
            for (int s = 0; s <= MOST_SUM; s++) {
                if (2 * s <= all && 2 * (s + weight[p]) > all) {
                    sum += sets[others * WIDTH + s];
                }
            }
            return sum;
        }

        private void countSetsWithout(int p) {
            for (int i = 0; i < MOST * WIDTH; i++) {
                sets[i] = 0;
            }
            sets[0] = 1;
            for (int q = 0; q < size; q++) {
                if (q != p) {
                    widenBy(weight[q]);
                }
            }
        }

        /** Larger sets first, so that one player is not put twice into a set. */
        private void widenBy(int seatsOfOne) {
            for (int others = MOST - 2; others >= 0; others--) {
                for (int s = 0; s + seatsOfOne <= MOST_SUM; s++) {
                    sets[(others + 1) * WIDTH + s + seatsOfOne] += sets[others * WIDTH + s];
                }
            }
        }
    }

    /** BOROUGHS with seats by votes, of as many by order. */
    private static final class Smallness {
        private final int[] order = new int[MOST_BOROUGHS];
        private int size;

        void rank(Realm realm) {
            size = 0;
            for (int b = 0; b < realm.boroughs; b++) {
                if (realm.members[b] > 0) {
                    insert(realm, b);
                }
            }
        }

        private void insert(Realm realm, int b) {
            if (size >= MOST_BOROUGHS) {
                return;
            }
            int at = size;
            while (at > 0 && realm.votesOf(order[at - 1]) > realm.votesOf(b)) {
                order[at] = order[at - 1];
                at--;
            }
            order[at] = b;
            size++;
        }

        int first(int n) {
            int set = 0;
            for (int i = 0; i < n && i < size; i++) {
                set |= 1 << order[i];
            }
            return set;
        }
    }

    /** What was SEEN: sets of lords that carried, or did not. */
    private static final class Witness {
        private final int[] some = new int[MOST_SEEN];
        private final boolean[] carried = new boolean[MOST_SEEN];
        private int size;

        boolean add(int set, boolean did) {
            if (size >= MOST_SEEN) {
                return false;
            }
            some[size] = set;
            carried[size] = did;
            size++;
            return true;
        }

        boolean fits(Realm realm) {
            for (int i = 0; i < size; i++) {
                if (realm.carries(some[i]) != carried[i]) {
                    return false;
                }
            }
            return true;
        }
    }

    /** A row of cells of a lane, or nothing (size NONE). */
    private static final class Sheet {
        private final int[] cells = new int[MOST_CELLS];
        private int lane;
        private int size = NONE;

        void renew(int itsLane, int n) {
            lane = itsLane;
            size = n;
            for (int i = 0; i < MOST_CELLS; i++) {
                cells[i] = 0;
            }
        }

        int faultAt(int i) {
            if (size == NONE) {
                return FOUND_NULL;
            }
            return within(i, 0, size - 1) ? 0 : FOUND_INDEX;
        }

        /** The lane is looked at pair by pair: where no pair is asked for, another lane is no fault. */
        int faultOfPair(int wanted, int i) {
            if (size != NONE && lane != wanted) {
                return FOUND_CAST;
            }
            int first = faultAt(i);
            return first != 0 ? first : faultAt(i + 1);
        }

        void put(int i, int v) {
            if (faultAt(i) == 0) {
                cells[i] = lane == 0 ? (byte) v : lane == 1 ? (short) v : v;
            }
        }

        int cellAt(int i) {
            return faultAt(i) == 0 ? cells[i] : 0;
        }
    }

    /** THE TAPE. */
    private static final class Tape {
        private static final int MOST = 160;

        private final char[] bytes = new char[MOST];
        private int length;

        boolean add(int c) {
            if (length >= MOST) {
                return false;
            }
            bytes[length] = (char) c;
            length++;
            return true;
        }

        /** A blank stands for what is behind the end: no token holds one. */
        char at(int i) {
            return i >= 0 && i < length ? bytes[i] : ' ';
        }
    }

    /** Reads its tape into its draft; met and metAt are the first fault and its place. */
    private static final class Reader {
        private static final int END = 0;
        private static final int NAME = 1;
        private static final int NUMBER = 2;
        private static final int STOP = 3;
        private static final int NO_TOKEN = 4;

        private static final int LORD_LINE = 4;
        private static final int PRICE_LINE = 5;

        private static final int BAD_TOKEN = 1;
        private static final int MISPLACED = 2;
        private static final int OUT_OF_BOUNDS = 3;
        private static final int PRICED_TWICE = 4;
        private static final int TOO_MANY = 5;
        private static final int NO_SUCH_LORD = 6;

        private final Tape tape = new Tape();
        private final Realm draft = new Realm();
        private int met;
        private int metAt;
        private int start;
        private int next;
        private int token;
        private int value;
        private boolean priced;

        int tellAll() {
            draft.empty();
            met = 0;
            metAt = 0;
            next = 0;
            priced = false;
            int lines = 0;
            advance();
            while (met == 0 && token != END && lines < Tape.MOST) {
                int line = beginning();
                if (line == LORD_LINE) {
                    tellLord();
                } else if (line == PRICE_LINE) {
                    tellPrice();
                } else if (line != NONE) {
                    tellBorough(line);
                } else {
                    refuse(MISPLACED, start);
                }
                lines++;
                advance();
            }
            checkOwners();
            return lines;
        }

        /** The kind of a borough that the line tells, or which other line it is; NONE if its name begins none. */
        private int beginning() {
            return isName("plain") ? 0
                : isName("mound") ? 1
                : isName("tent") ? 2
                : isName("twice") ? 3
                : isName("lord") ? LORD_LINE
                : isName("price") ? PRICE_LINE
                : NONE;
        }

        private void tellLord() {
            if (draft.lords >= MOST_LORDS) {
                refuse(TOO_MANY, start);
            }
            advance();
            int itsGuineas = number(0, MOST_GUINEAS);
            stop();
            draft.addLord(itsGuineas);
        }

        private void tellPrice() {
            if (priced) {
                refuse(PRICED_TWICE, start);
            }
            priced = true;
            advance();
            draft.votePrice = number(0, MOST_PRICE);
            stop();
        }

        private void tellBorough(int kind) {
            if (draft.boroughs >= MOST_BOROUGHS) {
                refuse(TOO_MANY, start);
            }
            advance();
            int houses = number(1, MOST_HOUSES);
            int members = number(0, MOST_SEATS);
            int owner = token == NUMBER ? number(0, MOST_LORDS - 1) : NONE;
            stop();
            draft.addBorough(kind, houses, members, owner);
        }

        /** Takes a number and reads the token behind it. */
        private int number(int low, int high) {
            if (token != NUMBER) {
                refuse(MISPLACED, start);
            } else if (!within(value, low, high)) {
                refuse(OUT_OF_BOUNDS, start);
            }
            int taken = value;
            advance();
            return taken;
        }

        private void stop() {
            if (token != STOP) {
                refuse(MISPLACED, start);
            }
        }

        private void checkOwners() {
            for (int b = 0; b < draft.boroughs; b++) {
                if (draft.owner[b] != NONE && draft.owner[b] >= draft.lords) {
                    refuse(NO_SUCH_LORD, tape.length);
                }
            }
        }

        /** Only the first fault counts: behind it nothing is read, and the draft is not used. */
        private void refuse(int kindOfFault, int place) {
            if (met == 0) {
                met = kindOfFault;
                metAt = place;
            }
        }

        private void advance() {
            if (met != 0) {
                return;
            }
            start = next;
            while (start < tape.length && tape.at(start) == ' ') {
                start++;
            }
            next = start + 1;
            char c = tape.at(start);
            if (start >= tape.length) {
                token = END;
                next = start;
            } else if (isLetter(c)) {
                token = NAME;
                next = endOfLetters(start);
            } else if (isFigure(c)) {
                readNumber();
            } else if (c == ';') {
                token = STOP;
            } else {
                token = NO_TOKEN;
                refuse(BAD_TOKEN, start);
            }
        }

        private void readNumber() {
            token = NUMBER;
            value = 0;
            next = start;
            while (next < tape.length && isFigure(tape.at(next))) {
                // Past two figures the number is refused: its value is not asked for, and must not grow.
                value = next - start < 2 ? value * 10 + tape.at(next) - '0' : value;
                next++;
            }
            if (next - start > 2) {
                token = NO_TOKEN;
                refuse(BAD_TOKEN, start);
            }
        }

        private int endOfLetters(int from) {
            int at = from;
            while (at < tape.length && isLetter(tape.at(at))) {
                at++;
            }
            return at;
        }

        private boolean isName(String name) {
            if (token != NAME || next - start != name.length()) {
                return false;
            }
            for (int i = 0; i < name.length(); i++) {
                if (tape.at(start + i) != name.charAt(i)) {
                    return false;
                }
            }
            return true;
        }

        private static boolean isLetter(char c) {
            return c >= 'a' && c <= 'z';
        }

        private static boolean isFigure(char c) {
            return c >= '0' && c <= '9';
        }
    }
}
