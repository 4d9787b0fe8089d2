import java.io.IOException;
import java.nio.file.Files;
import java.nio.file.Path;
import java.util.ArrayList;
import java.util.Comparator;
import java.util.HashMap;
import java.util.List;
import java.util.Map;
import java.util.Random;
import java.util.Set;
import java.util.TreeSet;
import java.util.regex.Matcher;
import java.util.regex.Pattern;
import java.util.stream.Stream;

/** README.md followed word for word: what it has to be saved, run and printed, and which calls give which answers. */
public final class ReadmeTest extends Checks {
    private static final Path PAGE = Path.of("README.md");
    private static final int RUNS = 400;

    private record Block(String kind, String inside) { }

    public static void main(String[] args) throws Exception {
        List<String> lines = Files.readAllLines(PAGE);
        blocksAreSo(blocks(lines));
        answersAreSo(lines);
        testsAreNamed(lines);
        finish();
    }

    private static List<Block> blocks(List<String> lines) {
        List<Block> found = new ArrayList<>();
        String kind = null;
        StringBuilder inside = new StringBuilder();
        for (String line : lines) {
            if (!line.startsWith("```")) {
                inside.append(line).append('\n');
            } else if (kind == null) {
                kind = line.substring(3);
                inside.setLength(0);
            } else {
                found.add(new Block(kind, inside.toString()));
                kind = null;
            }
        }
        return found;
    }

    /** The page is followed in a folder of its own, beside ../shared as this one is, so that nothing is left here. */
    private static void blocksAreSo(List<Block> blocks) throws IOException, InterruptedException {
        about(1, "README.md, what it has to be saved, run and printed");
        Path above = Files.createTempDirectory("readme");
        Path here = Files.createDirectory(above.resolve("main"));
        Files.createSymbolicLink(here.resolve("src"), Path.of("src").toRealPath());
        Files.createSymbolicLink(above.resolve("shared"), Path.of("../shared").toRealPath());
        String printed = "";
        Set<String> kinds = new TreeSet<>();
        for (Block block : blocks) {
            kinds.add(block.kind());
            switch (block.kind()) {
                case "java": save(here, block.inside()); break;
                case "sh": printed = isScript(block) ? "" : run(here, block.inside()); break;
                case "text": same("what is run", printed, block.inside()); break;
                default: same("the kind of a block", block.kind(), "java, sh or text");
            }
        }
        same("the kinds of blocks", kinds.toString(), "[java, sh, text]");
        delete(above);
    }

    /** The script runs this test, so that it can not be run here. */
    private static boolean isScript(Block block) {
        boolean is = block.inside().equals(".ci/run\n");
        due("whether .ci/run can be run", !is || Files.isExecutable(Path.of(".ci/run")) ? 1 : 0, 1);
        return is;
    }

    private static void save(Path here, String program) throws IOException {
        Matcher name = Pattern.compile("class (\\w+)").matcher(program);
        due("a class in the program", name.find() ? 1 : 0, 1);
        Files.writeString(here.resolve(name.group(1) + ".java"), program);
    }

    private static String run(Path here, String commands) throws IOException, InterruptedException {
        Process shell = new ProcessBuilder("sh", "-e", "-c", commands).directory(here.toFile())
            .redirectErrorStream(true).start();
        String printed = new String(shell.getInputStream().readAllBytes());
        int ended = shell.waitFor();
        due("the end of\n" + commands + printed, ended, 0);
        return printed;
    }

    private static void delete(Path above) throws IOException {
        try (Stream<Path> all = Files.walk(above)) {
            for (Path path : all.sorted(Comparator.reverseOrder()).toList()) {
                Files.delete(path);
            }
        }
    }

    /** The table's last column has just the calls that give an answer, as far as many runs by a seed can show it. */
    private static void answersAreSo(List<String> lines) {
        about(1, "README.md, which calls give which answer");
        Map<Integer, Set<String>> given = answersGiven();
        Set<String> numbered = new TreeSet<>();
        int rows = 0;
        for (String line : lines) {
            String[] cells = line.split("\\|");
            Matcher number = Pattern.compile("-\\d+").matcher(line);
            if (cells.length == 4 && number.find()) {
                rows++;
                int answer = Integer.parseInt(number.group());
                Set<String> named = named(cells[3]);
                if (answer <= -10) {
                    numbered.addAll(named);
                } else {
                    same("who gives " + answer, given.getOrDefault(answer, Set.of()).toString(), named.toString());
                }
            }
        }
        due("rows", rows, 6);
        same("who gives -10 or less", given.getOrDefault(-10, Set.of()).toString(), numbered.toString());
        due("kinds of answers below 0", given.size(), 5);
    }

    private static Set<String> named(String cell) {
        Set<String> names = new TreeSet<>();
        Matcher word = Pattern.compile("`(\\w+)`").matcher(cell);
        while (word.find()) {
            names.add(word.group(1));
        }
        if (cell.contains("every call but")) {
            Set<String> others = new TreeSet<>(calls().keySet());
            others.removeAll(names);
            return others;
        }
        return names;
    }

    private static Map<String, Integer> calls() {
        Map<String, Integer> places = new HashMap<>();
        for (var m : MoundVotes.class.getDeclaredMethods()) {
            if (java.lang.reflect.Modifier.isPublic(m.getModifiers())) {
                places.put(m.getName(), m.getParameterCount());
            }
        }
        return places;
    }

    /** All answers of -10 or less are as one: where a text's fault is may be anything. */
    private static Map<Integer, Set<String>> answersGiven() {
        Map<Integer, Set<String>> given = new HashMap<>();
        String[] texts = {"", TOWN, MOST, "lord 9;", "plain 1 1;", "lord 9;lord 9;plain 1 0;plain 1 0 1;price 0;"};
        List<String> names = new ArrayList<>(new TreeSet<>(calls().keySet()));
        Map<String, Integer> places = calls();
        for (int run = 0; run < RUNS; run++) {
            Random random = new Random(run);
            MoundVotes x = of(texts[run % texts.length]);
            feedAll(x, " ".repeat(run % 2 * 160));
            for (int i = 0; i < run % 7; i++) {
                x.see(0, false);
            }
            for (int i = 0; i < 250; i++) {
                String name = names.get(random.nextInt(names.size()));
                int[] numbers = random.ints(places.get(name), -1, random.nextInt(8) == 0 ? 130 : 7).toArray();
                int answer = (int) Math.max(made(x, name, numbers), -10);
                if (answer < 0) {
                    given.computeIfAbsent(answer, key -> new TreeSet<>()).add(name);
                }
            }
        }
        return given;
    }

    private static void testsAreNamed(List<String> lines) throws IOException {
        about(1, "README.md, its list of tests");
        Set<String> named = new TreeSet<>();
        Matcher word = Pattern.compile("`(\\w+Test)`").matcher(String.join("\n", lines));
        while (word.find()) {
            named.add(word.group(1));
        }
        Set<String> there = new TreeSet<>();
        try (Stream<Path> all = Files.list(Path.of("src/test/java"))) {
            all.forEach(path -> there.add(path.getFileName().toString().replace(".java", "")));
        }
        same("the tests", named.toString(), there.toString());
    }
}
