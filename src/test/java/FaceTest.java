import java.lang.reflect.Constructor;
import java.lang.reflect.Field;
import java.lang.reflect.Method;
import java.lang.reflect.Modifier;
import java.nio.file.Files;
import java.nio.file.Path;
import java.util.Set;
import java.util.TreeSet;
import java.util.regex.Matcher;
import java.util.regex.Pattern;

/** The public face, and those rules of LANGUAGE.md that can be seen in the classes and in the source. */
public final class FaceTest {
    private static final String[] FACE = {
        "int feed(int)", "int end(int)", "int text()", "int fault()", "int rule(int)", "int lord(int,int)",
        "int borough(int,int)", "int alter(int,int,int)", "int give(int,int)", "int purse(int,int)",
        "int price(int)", "int buy(int,int)", "int take(int)", "int carry(int,int)", "int swings(int)",
        "long share(int,int)", "long alone(int,int)", "int cheap(int,int)", "int able(int)", "int climb(int)",
        "int small(int)", "int line(int)", "int bribe(int,int)", "long luck(int,int,int)",
        "long mean(int,int,int)", "int see(int,boolean)", "int forget(int)", "int owners(int)", "int seats(int)",
        "int ask(int,int)", "int drift(int,int,int)", "int keep(int)", "int back(int)", "int sheet(int,int,int)",
        "int lay(int,int,int)", "int read(int,int,int,int)", "int torn()", "int count(int)",
    };
    private static final String[] FORBIDDEN = {
        "throw", "throws", "try", "catch", "finally", "synchronized", "assert", "import", "package", "Object",
        "native", "volatile", "transient", "var", "System", "Exception",
    };
    private static int wrong;

    public static void main(String[] args) throws Exception {
        members();
        insideClasses();
        source();
        library();
        methodsAreShort();
        objectsAreMadeByConstructors();
        System.out.println(wrong == 0 ? "the face is as due" : wrong + " faults in the face");
        if (wrong != 0) {
            System.exit(1);
        }
    }

    private static void need(boolean holds, String what) {
        if (!holds) {
            wrong++;
            System.out.println(what);
        }
    }

    private static String signature(Method m) {
        StringBuilder s = new StringBuilder(m.getReturnType() + " " + m.getName() + "(");
        for (int i = 0; i < m.getParameterCount(); i++) {
            s.append(i == 0 ? "" : ",").append(m.getParameterTypes()[i]);
        }
        return s.append(")").toString();
    }

    private static void members() throws Exception {
        need(Modifier.toString(MoundVotes.class.getModifiers()).equals("public final"), "the class is public final");
        Set<String> due = new TreeSet<>(Set.of(FACE));
        Set<String> got = new TreeSet<>();
        Set<String> names = new TreeSet<>();
        for (Method m : MoundVotes.class.getDeclaredMethods()) {
            if (Modifier.isPublic(m.getModifiers())) {
                got.add(signature(m));
                names.add(m.getName());
                need(!Modifier.isStatic(m.getModifiers()), m + " is static");
            } else {
                need(Modifier.isPrivate(m.getModifiers()), m + " is neither public nor private");
            }
        }
        need(got.equals(due), "the methods are " + got);
        for (Method m : MoundVotes.class.getDeclaredMethods()) {
            need(Modifier.isPublic(m.getModifiers()) || !names.contains(m.getName()), m + " bears a public name");
        }
        int constants = 0;
        for (Field f : MoundVotes.class.getDeclaredFields()) {
            need(!Modifier.isStatic(f.getModifiers()) || Modifier.isFinal(f.getModifiers()), f + " is not final");
            if (Modifier.isPublic(f.getModifiers())) {
                constants++;
                need(Modifier.isStatic(f.getModifiers()) && f.getType() == int.class, f + " is no constant");
            } else {
                need(Modifier.isPrivate(f.getModifiers()), f + " is not private");
            }
        }
        need(constants == 4, "four constants");
        need(MoundVotes.BAD == -1 && MoundVotes.STATE == -2 && MoundVotes.FULL == -3 && MoundVotes.NONE == -4,
            "the constants");
        Constructor<?>[] made = MoundVotes.class.getDeclaredConstructors();
        need(made.length == 1 && Modifier.isPublic(made[0].getModifiers()) && made[0].getParameterCount() == 0,
            "one public constructor");
    }

    private static void insideClasses() {
        Class<?>[] inside = MoundVotes.class.getDeclaredClasses();
        need(inside.length < 12, "at most twelve classes");
        sizes(MoundVotes.class);
        for (Class<?> c : inside) {
            int m = c.getModifiers();
            need(Modifier.isStatic(m) && !Modifier.isPublic(m) && !Modifier.isProtected(m), c + " is not hidden");
            sizes(c);
            for (Method method : c.getDeclaredMethods()) {
                for (String line : FACE) {
                    need(!line.contains(" " + method.getName() + "("), method + " bears a public name");
                }
            }
        }
    }

    private static void sizes(Class<?> c) {
        int fields = 0;
        for (Field f : c.getDeclaredFields()) {
            boolean shared = Modifier.isStatic(f.getModifiers());
            fields += shared ? 0 : 1;
            need(!shared || Modifier.isFinal(f.getModifiers()), f + " is static and not final");
        }
        need(fields <= 20, c + " has too many fields");
        for (Method method : c.getDeclaredMethods()) {
            need(method.getParameterCount() <= 7, method + " has too many parameters");
        }
    }

    private static String bareSource() throws Exception {
        String code = Files.readString(Path.of("src/main/java/MoundVotes.java"));
        return code.replaceAll("(?s)/\\*.*?\\*/", " ").replaceAll("//[^\n]*", " ");
    }

    /** Of the library the class needs only what stands here; rule 4 has more. */
    private static void library() throws Exception {
        Set<String> fine = Set.of("Integer.bitCount", "Math.max", "Math.min", "Players.WHOLE", "Tape.MOST");
        Matcher m = Pattern.compile("\\b[A-Z]\\w*[a-z]\\w*\\.\\w+").matcher(bareSource());
        while (m.find()) {
            need(fine.contains(m.group()), "the source has " + m.group());
        }
    }

    /** Each method begins and ends with the same blanks ahead: four, or eight in a class inside. */
    private static void methodsAreShort() throws Exception {
        int methods = 0;
        int began = 0;
        String end = null;
        String[] lines = bareSource().split("\n");
        for (int i = 0; i < lines.length; i++) {
            if (end == null && lines[i].matches("( {4}| {8})\\S.*\\) \\{")) {
                methods++;
                began = i;
                end = lines[i].replaceAll("\\S.*", "}");
            } else if (lines[i].equals(end)) {
                need(i - began < 60, "too long: " + lines[began]);
                end = null;
            }
        }
        need(methods > 80, "only " + methods + " methods were found");
    }

    /** An object is made where a field begins, or in the constructor: nowhere else. */
    private static void objectsAreMadeByConstructors() throws Exception {
        String bare = bareSource().replaceAll("(?s)    public MoundVotes\\(\\) \\{.*?\n    }\n", "");
        for (String line : bare.split("\n")) {
            need(!line.matches(".*\\bnew\\b.*") || line.matches(" +private final .* = new .*;"), "made in" + line);
        }
    }

    private static void source() throws Exception {
        String code = Files.readString(Path.of("src/main/java/MoundVotes.java"));
        for (int i = 0; i < code.length(); i++) {
            need(code.charAt(i) < 128, "a sign beyond 127 at " + i);
        }
        String bare = bareSource();
        for (String word : FORBIDDEN) {
            Matcher m = Pattern.compile("\\b" + word + "\\b").matcher(bare);
            need(!m.find(), "the source has " + word);
        }
        need(!bare.contains("->") && !bare.contains("::"), "a lambda or a method reference");
        need(!Pattern.compile("\"\\s*\\+|\\+\\s*\"").matcher(bare).find(), "texts joined by +");
    }
}
