import java.util.ArrayList;
import java.util.Arrays;
import java.util.List;
import java.util.Random;
import java.util.regex.Matcher;
import java.util.regex.Pattern;

/** Long runs of calls by a seed: each answer is set against that of a plain model, written another way. */
public final class ModelTest extends Checks {
    private static final int RUNS = 600;

    public static void main(String[] args) {
        int[] asked = new int[NAMES.length];
        int[] taken = new int[NAMES.length];
        for (int run = 0; run < RUNS; run++) {
            if (!same(run, asked, taken)) {
                System.exit(1);
            }
        }
        boolean all = true;
        for (int i = 0; i < NAMES.length; i++) {
            if (taken[i] < 100) {
                System.out.println(NAMES[i] + ": asked " + asked[i] + ", not refused " + taken[i] + ": too few");
                all = false;
            }
        }
        System.out.println(RUNS + " runs are as the model's");
        if (!all) {
            System.exit(1);
        }
    }

    private static final String[] NAMES = {"feed", "end", "text", "fault", "rule", "lord", "borough", "alter", "give",
        "purse", "price", "buy", "take", "carry", "swings", "share", "alone", "cheap", "able", "climb", "small", "line",
        "bribe", "luck", "mean", "see", "forget", "owners", "seats", "ask", "drift", "keep", "back", "sheet", "lay",
        "read", "torn", "count"};
    /** The bounds that arguments are drawn from, low and high, one pair each. */
    private static final int[][] BOUNDS = {{0, 127}, {-1, 20}, {}, {}, {-1, 7}, {-1, 4, -1, 3}, {-1, 6, -1, 6},
        {-1, 6, -1, 3, -1, 10}, {-1, 6, -5, 4}, {-1, 4, -1, 100}, {-1, 10}, {-1, 4, -1, 6}, {-1, 3}, {-1, 16, -1, 2},
        {-1, 4}, {-1, 4, -1, 2}, {-1, 6, -1, 2}, {-1, 4, -1, 2}, {-1, 4}, {-1, 4}, {-1, 6}, {0, 6}, {-1, 7, -1, 2},
        {-1, 11, -1, 16, -1, 2}, {-1, 11, -1, 16, -1, 2}, {-1, 16, 0, 1}, {-1, 6}, {-1, 6}, {-1, 6}, {-1, 6, -1, 2},
        {Integer.MIN_VALUE, Integer.MAX_VALUE, 0, 61, -1, 2}, {-1, 2}, {-1, 2}, {-1, 4, -1, 3, -1, 41},
        {-1, 4, -1, 12, 0, 6}, {-1, 4, -1, 3, -1, 9, -1, 6}, {}, {-1, 6}};

    private static boolean same(int run, int[] asked, int[] taken) {
        Random random = new Random(run);
        MoundVotes x = new MoundVotes();
        Model m = new Model();
        StringBuilder log = new StringBuilder();
        int calls = 0;
        while (calls < 512) {
            if (random.nextInt(40) == 0 || calls == 0) {
                String text = someText(random);
                for (int i = 0; i < text.length() && calls < 500; i++, calls++) {
                    if (x.feed(text.charAt(i)) != m.call(0, new int[] {text.charAt(i)})) {
                        System.out.println("run " + run + " feed differs");
                        return false;
                    }
                }
                log.append("feed all of '").append(text).append("'\n");
                if (!one(x, m, 2, new int[0], log, run, asked, taken)) {
                    return false;
                }
                calls++;
            }
            if (random.nextInt(12) == 0) {
                int k = random.nextInt(4);
                int[] made = {k, random.nextInt(3), random.nextInt(12)};
                boolean fine = one(x, m, 33, made, log, run, asked, taken);
                for (int i = 0; i < 8; i++) {
                    int high = random.nextInt(4) == 0 ? 65536 * random.nextInt(3) : 0;
                    int v = random.nextInt(i % 2 == 0 ? 4 : 6) + high;
                    fine &= one(x, m, 34, new int[] {k, i, v}, log, run, asked, taken);
                }
                if (!fine) {
                    return false;
                }
                calls += 9;
            }
            int which = random.nextInt(NAMES.length);
            if (which == 2 && random.nextInt(4) != 0) {
                continue;
            }
            int[] bounds = BOUNDS[which];
            int[] a = new int[bounds.length / 2];
            for (int i = 0; i < a.length; i++) {
                long low = bounds[2 * i];
                a[i] = (int) (low + Math.floorMod(random.nextLong(), bounds[2 * i + 1] - low + 1));
                if (random.nextInt(60) == 0) {
                    a[i] = random.nextInt();
                }
            }
            if (!one(x, m, which, a, log, run, asked, taken)) {
                return false;
            }
            calls++;
        }
        return true;
    }

    private static boolean one(MoundVotes x, Model m, int which, int[] a, StringBuilder log, int run, int[] asked,
            int[] taken) {
        String call = NAMES[which] + Arrays.toString(a);
        long got = made(x, NAMES[which], a);
        long want = m.call(which, a);
        asked[which]++;
        taken[which] += want >= 0 || want == NONE ? 1 : 0;
        log.append(call).append(" = ").append(got).append('\n');
        if (got != want) {
            System.out.println(log);
            System.out.println("run " + run + ": " + call + " answered " + got + ", the model " + want);
        }
        return got == want;
    }

    private static String someText(Random random) {
        StringBuilder s = new StringBuilder();
        int lords = random.nextInt(6) == 0 ? random.nextInt(3) : random.nextInt(3) + 2;
        int boroughs = random.nextInt(6) == 0 ? random.nextInt(3) : random.nextInt(4) + 3;
        for (int i = 0; i < lords; i++) {
            s.append("lord ").append(random.nextInt(100)).append(random.nextInt(5) == 0 ? " ;" : ";");
        }
        String[] kinds = {"plain", "mound", "tent", "twice"};
        for (int i = 0; i < boroughs; i++) {
            s.append(kinds[random.nextInt(4)]).append(' ').append(random.nextInt(9) + 1).append(' ')
                .append(random.nextInt(4));
            if (lords > 0 && random.nextInt(3) != 0) {
                s.append(' ').append(random.nextInt(lords));
            }
            s.append(';');
        }
        if (random.nextBoolean()) {
            s.append("price ").append(random.nextInt(6)).append(';');
        }
        int changes = random.nextInt(3) == 0 ? random.nextInt(3) : 0;
        String signs = " ;0123456789alordpinmutewc@";
        for (int i = 0; i < changes && s.length() > 0; i++) {
            int at = random.nextInt(s.length());
            switch (random.nextInt(3)) {
                case 0: s.setCharAt(at, signs.charAt(random.nextInt(signs.length()))); break;
                case 1: s.insert(at, signs.charAt(random.nextInt(signs.length()))); break;
                default: s.deleteCharAt(at);
            }
        }
        return s.toString();
    }

    private record Lord(int guineas) { }

    private record Borough(int kind, int houses, int seats, int owner) {
        int votes() {
            int half = houses / 2 + houses % 2;
            return new int[] {houses, half, half + 1, houses + half}[kind];
        }

        Borough ownedBy(int l) {
            return new Borough(kind, houses, seats, l);
        }

        Borough seated(int s) {
            return new Borough(kind, houses, s, owner);
        }
    }

    private static final class Town {
        List<Lord> lords = new ArrayList<>();
        List<Borough> boroughs = new ArrayList<>();
        int price = 3;

        Town copy() {
            Town t = new Town();
            t.lords.addAll(lords);
            t.boroughs.addAll(boroughs);
            t.price = price;
            return t;
        }

        int seats() {
            return boroughs.stream().mapToInt(Borough::seats).sum();
        }

        int guineas() {
            return lords.stream().mapToInt(Lord::guineas).sum();
        }

        int cost(int b) {
            return boroughs.get(b).votes() * price;
        }

        int seatsOf(int some) {
            return boroughs.stream().filter(b -> b.owner() >= 0 && (some & 1 << b.owner()) != 0)
                .mapToInt(Borough::seats).sum();
        }

        boolean carries(int some) {
            return seatsOf(some) > seats() - seatsOf(some);
        }

        int buy(int l, int b) {
            if (l < 0 || l >= lords.size() || b < 0 || b >= boroughs.size()) {
                return BAD;
            }
            int cost = cost(b);
            int seller = boroughs.get(b).owner();
            if (seller == l || lords.get(l).guineas() < cost) {
                return STATE;
            }
            lords.set(l, new Lord(lords.get(l).guineas() - cost));
            if (seller >= 0) {
                lords.set(seller, new Lord(Math.min(99, lords.get(seller).guineas() + cost)));
            }
            boroughs.set(b, boroughs.get(b).ownedBy(l));
            return lords.get(l).guineas();
        }

        List<Integer> weights() {
            List<Integer> w = new ArrayList<>();
            for (int l = 0; l < lords.size(); l++) {
                w.add(seatsOf(1 << l));
            }
            for (Borough b : boroughs) {
                if (b.owner() < 0) {
                    w.add(b.seats());
                }
            }
            return w;
        }

        int swings(int p) {
            List<Integer> w = weights();
            int n = 0;
            for (int set = 0; set < 1 << w.size(); set++) {
                if ((set & 1 << p) == 0 && !wins(w, set) && wins(w, set | 1 << p)) {
                    n++;
                }
            }
            return n;
        }

        private boolean wins(List<Integer> w, int set) {
            int s = 0;
            for (int i = 0; i < w.size(); i++) {
                s += (set & 1 << i) != 0 ? w.get(i) : 0;
            }
            return s * 2 > seats();
        }

        /** By going through all orders, those with the same players come as one: ways[set] orders lead to a set. */
        long[] share(int p) {
            List<Integer> w = weights();
            int all = (1 << w.size()) - 1;
            long[] ways = new long[all + 1];
            ways[0] = 1;
            long pivots = 0;
            for (int set = 0; set <= all; set++) {
                for (int i = 0; i < w.size(); i++) {
                    int with = set | 1 << i;
                    if (with != set) {
                        ways[with] += ways[set];
                    }
                }
            }
            for (int set = 0; set <= all; set++) {
                if ((set & 1 << p) == 0 && !wins(w, set) && wins(w, set | 1 << p)) {
                    pivots += ways[set] * ways[all & ~(set | 1 << p)];
                }
            }
            return lowest(pivots, ways[all]);
        }

        List<Integer> smallness() {
            List<Integer> order = new ArrayList<>();
            for (int b = 0; b < boroughs.size(); b++) {
                if (boroughs.get(b).seats() != 0) {
                    order.add(b);
                }
            }
            order.sort((a, b) -> Integer.compare(boroughs.get(a).votes() * 10 + a, boroughs.get(b).votes() * 10 + b));
            return order;
        }
    }

    private static long[] lowest(long top, long bottom) {
        for (long d = bottom; d > 1; d--) {
            if (bottom % d == 0 && top % d == 0) {
                return new long[] {top / d, bottom / d};
            }
        }
        return new long[] {top, bottom};
    }

    private static final class Model {
        private Town town = new Town();
        private final Town[] images = new Town[2];
        private String tape = "";
        private int fault;
        private int torn;
        private final List<int[]> seen = new ArrayList<>();
        private final Object[] sheets = new Object[4];

        private boolean noLord(int l) {
            return l < 0 || l >= town.lords.size();
        }

        private boolean noBorough(int b) {
            return b < 0 || b >= town.boroughs.size();
        }

        private boolean noLords(int some) {
            return some < 0 || some >= 1 << town.lords.size();
        }

        long call(int which, int[] a) {
            switch (NAMES[which]) {
                case "feed": return feed(a[0]);
                case "end": return end(a[0]);
                case "text": return text();
                case "fault": return fault;
                case "rule": return rule(a[0]);
                case "lord": return lord(a[0], a[1]);
                case "borough": return borough(a[0], a[1]);
                case "alter": return alter(a[0], a[1], a[2]);
                case "give": return give(a[0], a[1]);
                case "purse": return purse(a[0], a[1]);
                case "price": return price(a[0]);
                case "buy": return town.buy(a[0], a[1]);
                case "take": return take(a[0]);
                case "carry": return carry(a[0], a[1]);
                case "swings": return noLord(a[0]) ? BAD : town.swings(a[0]);
                case "share": return noLord(a[0]) || a[1] < 0 || a[1] > 1 ? BAD : town.share(a[0])[a[1]];
                case "alone": return alone(a[0], a[1]);
                case "cheap": return cheap(a[0], a[1]);
                case "able": return able(a[0]);
                case "climb": return climb(a[0]);
                case "small": return small(a[0]);
                case "line": return line(a[0]);
                case "bribe": return bribe(a[0], a[1]);
                case "luck": return luck(a[0], a[1], a[2]);
                case "mean": return mean(a[0], a[1], a[2]);
                case "see": return see(a[0], a[1]);
                case "forget": return forget(a[0]);
                case "owners": return noBorough(a[0]) ? BAD
                    : owners(a[0]).stream().mapToInt(l -> l < 0 ? 16 : 1 << l).sum();
                case "seats": return seats(a[0]);
                case "ask": return ask(a[0], a[1]);
                case "drift": return drift(a[0], a[1], a[2]);
                case "keep": return keep(a[0]);
                case "back": return back(a[0]);
                case "sheet": return sheet(a[0], a[1], a[2]);
                case "lay": return lay(a[0], a[1], a[2]);
                case "read": return read(a[0], a[1], a[2], a[3]);
                case "torn": return torn;
                default: return count(a[0]);
            }
        }

        private int feed(int c) {
            if (c < 0 || c > 127) {
                return BAD;
            }
            if (tape.length() == 160) {
                return FULL;
            }
            tape += (char) c;
            return tape.length();
        }

        private int end(int n) {
            if (n < 0 || n > tape.length()) {
                return BAD;
            }
            int had = tape.length();
            tape = tape.substring(0, n);
            return had;
        }

        /** Tokens are found by patterns, and what can follow is a state by a letter. */
        private int text() {
            String t = tape;
            tape = "";
            Town told = new Town();
            Matcher m = Pattern.compile(" *(?:([a-z]+)|([0-9]+)|(;)|([^ ]))").matcher(t);
            int lines = 0;
            boolean priced = false;
            List<Integer> numbers = new ArrayList<>();
            String name = null;
            int at = 0;
            while (m.find()) {
                at = m.start() + m.group().lastIndexOf(' ') + 1;
                if (m.group(4) != null || m.group(2) != null && m.group(2).length() > 2) {
                    return faulty(1, at);
                }
                if (name == null) {
                    name = m.group(1);
                    numbers.clear();
                    if (name == null || !List.of("lord", "price", "plain", "mound", "tent", "twice").contains(name)) {
                        return faulty(2, at);
                    }
                    if (name.equals("price") && priced) {
                        return faulty(4, at);
                    }
                    if (name.equals("lord") && told.lords.size() == 4
                        || !name.equals("lord") && !name.equals("price") && told.boroughs.size() == 6) {
                        return faulty(5, at);
                    }
                    continue;
                }
                int[] low = name.equals("lord") || name.equals("price") ? new int[] {0} : new int[] {1, 0, 0};
                int[] high = name.equals("lord") ? new int[] {99} : name.equals("price") ? new int[] {9}
                    : new int[] {9, 3, 3};
                if (m.group(2) != null && numbers.size() < low.length) {
                    int v = Integer.parseInt(m.group(2));
                    if (v < low[numbers.size()] || v > high[numbers.size()]) {
                        return faulty(3, at);
                    }
                    numbers.add(v);
                } else if (m.group(3) != null && numbers.size() >= (low.length + 1) / 2) {
                    if (name.equals("lord")) {
                        told.lords.add(new Lord(numbers.get(0)));
                    } else if (name.equals("price")) {
                        told.price = numbers.get(0);
                        priced = true;
                    } else {
                        told.boroughs.add(new Borough(List.of("plain", "mound", "tent", "twice").indexOf(name),
                            numbers.get(0), numbers.get(1), numbers.size() == 3 ? numbers.get(2) : NONE));
                    }
                    name = null;
                    lines++;
                } else {
                    return faulty(2, at);
                }
            }
            if (name != null) {
                return faulty(2, t.length());
            }
            for (Borough b : told.boroughs) {
                if (b.owner() >= told.lords.size()) {
                    return faulty(6, t.length());
                }
            }
            town = told;
            fault = 0;
            seen.clear();
            Arrays.fill(images, null);
            return lines;
        }

        private int faulty(int number, int place) {
            fault = number;
            return -10 - place;
        }

        private int rule(int what) {
            int free = 0;
            int none = 0;
            for (int b = 0; b < town.boroughs.size(); b++) {
                free += town.boroughs.get(b).owner() < 0 ? 1 << b : 0;
                none += town.boroughs.get(b).seats() == 0 ? 1 << b : 0;
            }
            int[] answers = {town.lords.size(), town.boroughs.size(), town.price, town.seats(), town.guineas(), free,
                none};
            return what < 0 || what > 6 ? BAD : answers[what];
        }

        private int lord(int l, int what) {
            if (noLord(l) || what < 0 || what > 2) {
                return BAD;
            }
            int his = 0;
            for (int b = 0; b < town.boroughs.size(); b++) {
                his += town.boroughs.get(b).owner() == l ? 1 << b : 0;
            }
            return new int[] {town.lords.get(l).guineas(), his, town.seatsOf(1 << l)}[what];
        }

        private int borough(int b, int what) {
            if (noBorough(b) || what < 0 || what > 5) {
                return BAD;
            }
            Borough o = town.boroughs.get(b);
            return new int[] {o.kind(), o.houses(), o.seats(), o.owner(), o.votes(), o.votes() * town.price}[what];
        }

        private int alter(int b, int what, int v) {
            if (noBorough(b) || what < 0 || what > 2) {
                return BAD;
            }
            Borough o = town.boroughs.get(b);
            if (v < new int[] {0, 1, 0}[what] || v > new int[] {3, 9, 3}[what]) {
                return BAD;
            }
            town.boroughs.set(b, new Borough(what == 0 ? v : o.kind(), what == 1 ? v : o.houses(),
                what == 2 ? v : o.seats(), o.owner()));
            return what == 0 ? o.kind() : what == 1 ? o.houses() : o.seats();
        }

        private int give(int b, int l) {
            if (noBorough(b) || noLord(l) && l != NONE) {
                return BAD;
            }
            int was = town.boroughs.get(b).owner();
            town.boroughs.set(b, town.boroughs.get(b).ownedBy(l));
            return was;
        }

        private int purse(int l, int v) {
            return noLord(l) || v < 0 || v > 99 ? BAD : town.lords.set(l, new Lord(v)).guineas();
        }

        private int price(int v) {
            if (v < 0 || v > 9) {
                return BAD;
            }
            int was = town.price;
            town.price = v;
            return was;
        }

        private int take(int n) {
            if (n < 0 || n > 6) {
                return BAD;
            }
            List<Integer> order = town.smallness();
            if (order.size() < n) {
                return NONE;
            }
            int set = 0;
            for (int b : order.subList(0, n)) {
                set += 1 << b;
                town.boroughs.set(b, town.boroughs.get(b).seated(0));
            }
            return set;
        }

        private int carry(int some, int what) {
            if (noLords(some) || what < 0 || what > 1) {
                return BAD;
            }
            return what == 0 ? town.seatsOf(some) : town.carries(some) ? 1 : 0;
        }

        private long alone(int b, int what) {
            if (noBorough(b) || what < 0 || what > 1) {
                return BAD;
            }
            if (town.boroughs.get(b).owner() >= 0) {
                return STATE;
            }
            int p = town.lords.size();
            for (int c = 0; c < b; c++) {
                p += town.boroughs.get(c).owner() < 0 ? 1 : 0;
            }
            return town.share(p)[what];
        }

        private int cheap(int l, int what) {
            if (noLord(l) || what < 0 || what > 1) {
                return BAD;
            }
            int best = NONE;
            int least = Integer.MAX_VALUE;
            for (int set = (1 << town.boroughs.size()) - 1; set >= 0; set--) {
                Town t = town.copy();
                int cost = 0;
                boolean fine = true;
                for (int b = 0; b < town.boroughs.size(); b++) {
                    if ((set & 1 << b) != 0) {
                        fine &= town.boroughs.get(b).owner() != l;
                        cost += town.cost(b);
                        t.boroughs.set(b, t.boroughs.get(b).ownedBy(l));
                    }
                }
                if (fine && t.carries(1 << l) && cost <= least) {
                    least = cost;
                    best = set;
                }
            }
            return best == NONE ? NONE : what == 0 ? least : best;
        }

        private int able(int l) {
            if (noLord(l)) {
                return BAD;
            }
            int set = 0;
            for (int b = 0; b < town.boroughs.size(); b++) {
                set += town.copy().buy(l, b) >= 0 ? 1 << b : 0;
            }
            return set;
        }

        private int climb(int l) {
            if (noLord(l)) {
                return BAD;
            }
            long[] most = town.share(l);
            int best = NONE;
            for (int b = 0; b < town.boroughs.size(); b++) {
                Town t = town.copy();
                if (t.buy(l, b) >= 0) {
                    long[] s = t.share(l);
                    if (s[0] * most[1] > most[0] * s[1]) {
                        most = s;
                        best = b;
                    }
                }
            }
            return best;
        }

        private int small(int i) {
            return i < 0 || i > 5 ? BAD : i < town.smallness().size() ? town.smallness().get(i) : NONE;
        }

        private int line(int n) {
            if (n < 1 || n > 5) {
                return BAD;
            }
            List<Integer> order = town.smallness();
            return order.size() <= n ? NONE
                : town.boroughs.get(order.get(n - 1)).votes() < town.boroughs.get(order.get(n)).votes() ? 1 : 0;
        }

        private int bribe(int n, int what) {
            if (n < 0 || n > 6 || what < 0 || what > 1) {
                return BAD;
            }
            List<Integer> order = town.smallness();
            if (order.size() < n) {
                return NONE;
            }
            int best = NONE;
            int least = Integer.MAX_VALUE;
            for (int pick = 0; pick < 1 << n; pick++) {
                int against = 0;
                int cost = 0;
                int set = 0;
                for (int i = 0; i < n; i++) {
                    int b = order.get(i);
                    if ((pick & 1 << i) == 0) {
                        against += town.boroughs.get(b).seats();
                    } else {
                        cost += town.cost(b);
                        set += 1 << b;
                    }
                }
                if (town.seats() - against > against && (cost < least || cost == least && set < best)) {
                    least = cost;
                    best = set;
                }
            }
            return best == NONE ? NONE : what == 0 ? least : best;
        }

        private long luck(int v, int some, int what) {
            if (v < 0 || v > 10 || noLords(some) || what < 0 || what > 1) {
                return BAD;
            }
            long all = 1;
            for (int i = 0; i < town.boroughs.size(); i++) {
                all *= 10;
            }
            return lowest(lucky(v, some, 0, 0, 0), all)[what];
        }

        private long lucky(int v, int some, int b, int mine, int others) {
            if (b == town.boroughs.size()) {
                return mine > others ? 1 : 0;
            }
            Borough o = town.boroughs.get(b);
            boolean his = o.owner() >= 0 && (some & 1 << o.owner()) != 0;
            return v * lucky(v, some, b + 1, mine, others)
                + (10 - v) * lucky(v, some, b + 1, mine + (his ? o.seats() : 0), others + (his ? 0 : o.seats()));
        }

        private long mean(int v, int some, int what) {
            if (v < 0 || v > 10 || noLords(some) || what < 0 || what > 1) {
                return BAD;
            }
            return lowest((10L - v) * town.seatsOf(some), 10)[what];
        }

        private int see(int some, int carried) {
            if (noLords(some)) {
                return BAD;
            }
            if (seen.size() == 6) {
                return FULL;
            }
            seen.add(new int[] {some, carried == 0 ? 0 : 1});
            return seen.size();
        }

        private int forget(int n) {
            if (n < 0 || n > seen.size()) {
                return BAD;
            }
            int had = seen.size();
            while (seen.size() > n) {
                seen.remove(seen.size() - 1);
            }
            return had;
        }

        private boolean asSeen(Town t) {
            return seen.stream().allMatch(s -> t.carries(s[0]) == (s[1] == 1));
        }

        private Town owned(int b, int l) {
            Town t = town.copy();
            t.boroughs.set(b, t.boroughs.get(b).ownedBy(l));
            return t;
        }

        private List<Integer> owners(int b) {
            List<Integer> who = new ArrayList<>();
            for (int l = -1; l < town.lords.size(); l++) {
                if (asSeen(owned(b, l))) {
                    who.add(l);
                }
            }
            return who;
        }

        private int seats(int b) {
            if (noBorough(b)) {
                return BAD;
            }
            int set = 0;
            for (int s = 0; s < 4; s++) {
                Town t = town.copy();
                t.boroughs.set(b, t.boroughs.get(b).seated(s));
                set += asSeen(t) ? 1 << s : 0;
            }
            return set;
        }

        private int ask(int b, int what) {
            if (noBorough(b) || what < 0 || what > 1) {
                return BAD;
            }
            List<Integer> now = owners(b);
            int best = NONE;
            int fewest = now.size();
            for (int some = 1; some < 1 << town.lords.size(); some++) {
                int worst = 0;
                for (int carried = 0; carried < 2; carried++) {
                    seen.add(new int[] {some, carried});
                    worst = Math.max(worst, owners(b).size());
                    seen.remove(seen.size() - 1);
                }
                if (worst < fewest) {
                    fewest = worst;
                    best = some;
                }
            }
            return best == NONE ? NONE : what == 0 ? best : fewest;
        }

        private int drift(int seed, int n, int what) {
            if (n < 1 || n > 60 || what < 0 || what > 1) {
                return BAD;
            }
            if (town.lords.isEmpty() || town.boroughs.isEmpty()) {
                return STATE;
            }
            Town t = town.copy();
            int sales = 0;
            for (int i = 0; i < n; i++) {
                seed = seed * 1103515245 + 12345;
                int l = ((seed & 0x7fffffff) >> 16) % t.lords.size();
                seed = seed * 1103515245 + 12345;
                int b = ((seed & 0x7fffffff) >> 16) % t.boroughs.size();
                sales += t.buy(l, b) >= 0 ? 1 : 0;
            }
            return what == 0 ? sales : t.guineas();
        }

        private int keep(int k) {
            if (k < 0 || k > 1) {
                return BAD;
            }
            int was = images[k] == null ? 0 : 1;
            images[k] = town.copy();
            return was;
        }

        private int back(int k) {
            if (k < 0 || k > 1) {
                return BAD;
            }
            if (images[k] == null) {
                return STATE;
            }
            town = images[k].copy();
            return town.guineas();
        }

        private int sheet(int k, int lane, int n) {
            if (k < 0 || k > 3 || lane < 0 || lane > 2 || n > 40) {
                return BAD;
            }
            if (n < 0) {
                return -14;
            }
            sheets[k] = lane == 0 ? new byte[n] : lane == 1 ? new short[n] : new int[n];
            return 1;
        }

        private int lay(int k, int i, int v) {
            if (k < 0 || k > 3) {
                return BAD;
            }
            try {
                if (sheets[k] instanceof byte[] row) {
                    row[i] = (byte) v;
                } else if (sheets[k] instanceof short[] row) {
                    row[i] = (short) v;
                } else {
                    ((int[]) sheets[k])[i] = v;
                }
                return 1;
            } catch (NullPointerException e) {
                return -11;
            } catch (ArrayIndexOutOfBoundsException e) {
                return -12;
            }
        }

        /** Here the machine itself finds the faults. */
        private int read(int k, int lane, int f, int n) {
            if (k < 0 || k > 3 || lane < 0 || lane > 2 || n < 0 || n > 20) {
                return BAD;
            }
            Town before = town.copy();
            int bought = 0;
            int found = 0;
            try {
                for (int i = 0; i < n; i++) {
                    int l = cellAs(lane, sheets[k], f + 2 * i);
                    int b = cellAs(lane, sheets[k], f + 2 * i + 1);
                    if (town.buy(l, b) < 0) {
                        town = before;
                        return -20 - i;
                    }
                    bought++;
                }
            } catch (NullPointerException e) {
                found = 1;
            } catch (ArrayIndexOutOfBoundsException e) {
                found = 2;
            } catch (ClassCastException e) {
                found = 3;
            }
            torn = found;
            return bought;
        }

        private static int cellAs(int lane, Object sheet, int at) {
            return lane == 0 ? ((byte[]) sheet)[at] : lane == 1 ? ((short[]) sheet)[at] : ((int[]) sheet)[at];
        }

        private int count(int what) {
            int images = (this.images[0] == null ? 0 : 1) + (this.images[1] == null ? 0 : 1);
            int cells = sheets[0] == null ? NONE : java.lang.reflect.Array.getLength(sheets[0]);
            int votes = town.boroughs.stream().mapToInt(Borough::votes).sum();
            int[] answers = {seen.size(), images, tape.length(), cells, votes, town.weights().size()};
            return what < 0 || what > 5 ? BAD : answers[what];
        }
    }
}
