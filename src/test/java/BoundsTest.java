import java.util.Arrays;
import java.util.List;

/**
 * Each call with numbers of all sizes at every place, alone and together: BAD comes just when a number is not as told,
 * ahead of every other answer, and no call ever throws.
 */
public final class BoundsTest extends Checks {
    private interface Fine {
        boolean are(MoundVotes x, int[] a);
    }

    private record Row(String name, int places, Fine fine) { }

    private static final int[] MANY = {Integer.MIN_VALUE, Integer.MIN_VALUE + 1, -65536, -256, -100, -11, -10, -6, -5,
        -4, -3, -2, -1, 0, 1, 2, 3, 4, 5, 6, 7, 8, 9, 10, 11, 15, 16, 17, 20, 21, 31, 32, 33, 40, 41, 59, 60, 61, 63,
        64, 98, 99, 100, 127, 128, 159, 160, 161, 255, 256, 65535, 65536, Integer.MAX_VALUE - 1, Integer.MAX_VALUE};
    /** Where three or four numbers are tried together. */
    private static final int[] FEW = {Integer.MIN_VALUE, -5, -4, -1, 0, 1, 2, 3, 4, 5, 6, 7, 8, 9, 10, 11, 15, 16, 20,
        21, 40, 41, 60, 61, Integer.MAX_VALUE};

    private static final List<Row> ROWS = List.of(
        new Row("feed", 1, (x, a) -> in(a[0], 0, 127)),
        new Row("end", 1, (x, a) -> in(a[0], 0, x.count(2))),
        new Row("rule", 1, (x, a) -> in(a[0], 0, 6)),
        new Row("lord", 2, (x, a) -> lord(x, a[0]) && in(a[1], 0, 2)),
        new Row("borough", 2, (x, a) -> borough(x, a[0]) && in(a[1], 0, 5)),
        new Row("alter", 3, (x, a) -> borough(x, a[0]) && (a[1] == 0 && in(a[2], 0, 3) || a[1] == 1 && in(a[2], 1, 9)
            || a[1] == 2 && in(a[2], 0, 3))),
        new Row("give", 2, (x, a) -> borough(x, a[0]) && (a[1] == NONE || lord(x, a[1]))),
        new Row("purse", 2, (x, a) -> lord(x, a[0]) && in(a[1], 0, 99)),
        new Row("price", 1, (x, a) -> in(a[0], 0, 9)),
        new Row("buy", 2, (x, a) -> lord(x, a[0]) && borough(x, a[1])),
        new Row("take", 1, (x, a) -> in(a[0], 0, 6)),
        new Row("carry", 2, (x, a) -> lords(x, a[0]) && in(a[1], 0, 1)),
        new Row("swings", 1, (x, a) -> lord(x, a[0])),
        new Row("share", 2, (x, a) -> lord(x, a[0]) && in(a[1], 0, 1)),
        new Row("alone", 2, (x, a) -> borough(x, a[0]) && in(a[1], 0, 1)),
        new Row("cheap", 2, (x, a) -> lord(x, a[0]) && in(a[1], 0, 1)),
        new Row("able", 1, (x, a) -> lord(x, a[0])),
        new Row("climb", 1, (x, a) -> lord(x, a[0])),
        new Row("small", 1, (x, a) -> in(a[0], 0, 5)),
        new Row("line", 1, (x, a) -> in(a[0], 1, 5)),
        new Row("bribe", 2, (x, a) -> in(a[0], 0, 6) && in(a[1], 0, 1)),
        new Row("luck", 3, (x, a) -> in(a[0], 0, 10) && lords(x, a[1]) && in(a[2], 0, 1)),
        new Row("mean", 3, (x, a) -> in(a[0], 0, 10) && lords(x, a[1]) && in(a[2], 0, 1)),
        new Row("see", 2, (x, a) -> lords(x, a[0])),
        new Row("forget", 1, (x, a) -> in(a[0], 0, x.count(0))),
        new Row("owners", 1, (x, a) -> borough(x, a[0])),
        new Row("seats", 1, (x, a) -> borough(x, a[0])),
        new Row("ask", 2, (x, a) -> borough(x, a[0]) && in(a[1], 0, 1)),
        new Row("drift", 3, (x, a) -> in(a[1], 1, 60) && in(a[2], 0, 1)),
        new Row("keep", 1, (x, a) -> in(a[0], 0, 1)),
        new Row("back", 1, (x, a) -> in(a[0], 0, 1)),
        new Row("sheet", 3, (x, a) -> in(a[0], 0, 3) && in(a[1], 0, 2) && a[2] <= 40),
        new Row("lay", 3, (x, a) -> in(a[0], 0, 3)),
        new Row("read", 4, (x, a) -> in(a[0], 0, 3) && in(a[1], 0, 2) && in(a[3], 0, 20)),
        new Row("count", 1, (x, a) -> in(a[0], 0, 5)));

    public static void main(String[] args) {
        String[] texts = {"", "lord 5;", "plain 3 1;", "lord 9;plain 1 0;", TOWN, MOST};
        for (Row row : ROWS) {
            about(1, "BAD: a number is not as told, there is no such LORD, BOROUGH, IMAGE, SHEET");
            for (String text : texts) {
                sweep(row, text);
            }
        }
        finish();
    }

    private static boolean in(int v, int low, int high) {
        return v >= low && v <= high;
    }

    private static boolean lord(MoundVotes x, int l) {
        return in(l, 0, x.rule(0) - 1);
    }

    private static boolean lords(MoundVotes x, int some) {
        return in(some, 0, (1 << x.rule(0)) - 1);
    }

    private static boolean borough(MoundVotes x, int b) {
        return in(b, 0, x.rule(1) - 1);
    }

    /** All numbers at all places; a new object before the calls of one are as many as the document allows. */
    private static void sweep(Row row, String text) {
        int[] values = row.places() < 3 ? MANY : FEW;
        int all = 1;
        for (int i = 0; i < row.places(); i++) {
            all *= values.length;
        }
        // Of read's many only some are tried: the step has no divisor in common with how many numbers there are.
        int step = row.places() < 4 ? 1 : 7;
        MoundVotes x = null;
        int[] a = new int[row.places()];
        for (int n = 0; n < all; n += step) {
            if (x == null || n / step % 60 == 0) {
                x = state(text);
            }
            for (int i = 0, rest = n; i < a.length; i++, rest /= values.length) {
                a[i] = values[rest % values.length];
            }
            boolean fine = row.fine().are(x, a);
            boolean bad = made(x, row.name(), a) == BAD;
            due("whether " + row.name() + Arrays.toString(a) + " is BAD on " + text, bad ? 1 : 0, fine ? 0 : 1);
        }
    }

    private static MoundVotes state(String text) {
        MoundVotes x = of(text);
        x.see(0, false);
        x.see(0, false);
        x.keep(0);
        x.sheet(0, 0, 40);
        x.sheet(1, 1, 3);
        feedAll(x, "lord 1;");
        return x;
    }
}
