import java.lang.reflect.InvocationTargetException;
import java.lang.reflect.Method;

/**
 * What the tests share: the sentence that is tested, answers that are due, texts that are told. A test extends it to
 * have these by their plain names, as a class without a package can not be imported.
 */
abstract class Checks {
    static final int BAD = -1, STATE = -2, FULL = -3, NONE = -4;
    /** Three lords and six boroughs of all kinds, one of them without seats, two of nobody. */
    static final String TOWN =
        "lord 40;lord 12;lord 90;plain 4 2 0;mound 7 1 1;tent 2 3;twice 5 2 2;plain 1 1;mound 9 0 0;price 2;";
    /** As many of all, and each as large, as there may be. */
    static final String MOST = "lord 99;lord 99;lord 99;lord 99;twice 9 3 0;twice 9 3 1;twice 9 3 2;twice 9 3 3;"
        + "twice 9 3 3;twice 9 3 3;price 9;";
    private static int checks;
    private static int wrong;
    private static String about = "";

    /** Names the promise and the words of the document that the checks behind it are of. */
    static void about(int promise, String sentence) {
        about = "promise " + promise + " (" + sentence + ")";
    }

    static void due(String what, long got, long want) {
        checks++;
        if (got != want) {
            wrong++;
            System.out.println(about + ": " + what + " answered " + got + ", due is " + want);
        }
    }

    static void same(String what, String got, String want) {
        checks++;
        if (!got.equals(want)) {
            wrong++;
            System.out.println(about + ": " + what + " gave " + got + ", due is " + want);
        }
    }

    static void fraction(String what, long top, long bottom, long wantTop, long wantBottom) {
        due(what + " top", top, wantTop);
        due(what + " bottom", bottom, wantBottom);
    }

    static void feedAll(MoundVotes x, String text) {
        for (int i = 0; i < text.length(); i++) {
            x.feed(text.charAt(i));
        }
    }

    static int tell(MoundVotes x, String text) {
        feedAll(x, text);
        return x.text();
    }

    /** A new object that has been told a text, which must be one that is taken. */
    static MoundVotes of(String text) {
        MoundVotes x = new MoundVotes();
        int lines = tell(x, text);
        due("text of " + text, Math.min(lines, 0), 0);
        return x;
    }

    /** Makes a call by its name; a number other than 0 stands for true. */
    static long made(MoundVotes x, String name, int... numbers) {
        for (Method m : MoundVotes.class.getMethods()) {
            if (m.getName().equals(name) && m.getParameterCount() == numbers.length) {
                Object[] arguments = new Object[numbers.length];
                for (int i = 0; i < numbers.length; i++) {
                    boolean truth = m.getParameterTypes()[i] == boolean.class;
                    arguments[i] = truth ? (Object) (numbers[i] != 0) : (Object) numbers[i];
                }
                try {
                    return ((Number) m.invoke(x, arguments)).longValue();
                } catch (IllegalAccessException | InvocationTargetException e) {
                    throw new AssertionError(name + java.util.Arrays.toString(numbers), e);
                }
            }
        }
        throw new AssertionError("there is no call " + name + " of " + numbers.length);
    }

    /** Makes a call that is written in numbers, as alter(0, 1, 9). */
    static long made(MoundVotes x, String call) {
        String name = call.substring(0, call.indexOf('('));
        String inside = call.substring(call.indexOf('(') + 1, call.indexOf(')')).replace(" ", "");
        String[] words = inside.isEmpty() ? new String[0] : inside.split(",");
        int[] numbers = new int[words.length];
        for (int i = 0; i < words.length; i++) {
            numbers[i] = Integer.parseInt(words[i]);
        }
        return made(x, name, numbers);
    }

    static void finish() {
        System.out.println(checks + " checks, " + wrong + " wrong");
        if (wrong != 0 || checks == 0) {
            System.exit(1);
        }
    }
}
