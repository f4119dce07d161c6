import java.io.ByteArrayOutputStream;
import java.io.IOException;
import java.lang.reflect.Method;
import java.lang.reflect.Modifier;
import java.net.URL;
import java.net.URLClassLoader;
import java.nio.charset.StandardCharsets;
import java.nio.file.Files;
import java.nio.file.Path;
import java.util.ArrayList;
import java.util.Comparator;
import java.util.List;
import java.util.Map;
import java.util.Set;
import java.util.TreeMap;
import java.util.TreeSet;
import java.util.regex.Matcher;
import java.util.regex.Pattern;
import java.util.stream.Collectors;
import java.util.stream.Stream;
import javax.tools.JavaCompiler;
import javax.tools.ToolProvider;

/** README.md says what is so: its example calls, its tables, its first program and its commands. */
public final class ReadmeExamples {
    private static final List<String> wrong = new ArrayList<>();

    public static void main(String[] args) throws Exception {
        Patience.begin();
        String page = Files.readString(Path.of("README.md"));
        Readme readme = new Readme(page);
        Path scratch = Files.createTempDirectory("readme");
        try {
            wrong.addAll(readme.unsaid);
            wrong.addAll(otherAnswers(readme, scratch.resolve("as-it-is")));
            otherAnswersAreSeen(page, scratch.resolve("all-other"));
            everyCallIsShown(readme);
            callsAreTheDocuments(readme, Files.readString(Path.of("../shared/DOC.md")));
            constantsAreTheClasss(readme);
            namedFilesAreThere(page);
            everyTestIsNamed(page);
            commandsWork(readme, scratch);
        } finally {
            remove(scratch);
        }
        wrong.forEach(System.out::println);
        System.out.println("ReadmeExamples: " + readme.examples.size() + " example calls, " + wrong.size() + " faults");
        if (!wrong.isEmpty() || readme.examples.isEmpty()) {
            System.exit(1);
        }
    }

    // ---- example calls

    private static List<String> otherAnswers(Readme readme, Path dir) throws Exception {
        Map<?, ?> got = answersOf(readme, dir);
        List<String> out = new ArrayList<>();
        for (Readme.Example e : readme.examples) {
            if (!Integer.valueOf(numberOf(e.answer())).equals(got.get(e.line()))) {
                out.add("README.md, line " + e.line() + ": " + e.call() + " answered " + got.get(e.line())
                        + ", README.md says " + e.answer());
            }
        }
        return out;
    }

    private static Map<?, ?> answersOf(Readme readme, Path dir) throws Exception {
        Files.createDirectories(dir);
        Path source = dir.resolve("ReadmeRun.java");
        Files.writeString(source, readme.sourceOfRun("ReadmeRun"));
        JavaCompiler compiler = ToolProvider.getSystemJavaCompiler();
        ByteArrayOutputStream told = new ByteArrayOutputStream();
        String classes = System.getProperty("java.class.path");
        if (compiler.run(null, told, told, "-encoding", "UTF-8", "-cp", classes, "-d", dir.toString(), source.toString()) != 0) {
            wrong.add("the examples of README.md do not compile: " + told.toString(StandardCharsets.UTF_8));
            return Map.of();
        }
        try (URLClassLoader loader = new URLClassLoader(new URL[] {dir.toUri().toURL()})) {
            Class<?> made = loader.loadClass("ReadmeRun");
            made.getMethod("run").invoke(null);
            return (Map<?, ?>) made.getField("GOT").get(null);
        }
    }

    private static int numberOf(String answer) throws ReflectiveOperationException {
        boolean isName = Character.isLetter(answer.charAt(0));
        return isName ? WeatherHand.class.getField(answer).getInt(null) : Integer.parseInt(answer);
    }

    /** A page that says another number at every example must be found wrong at every one of them. */
    private static void otherAnswersAreSeen(String page, Path dir) throws Exception {
        Readme readme = new Readme(page);
        List<Readme.Example> others = new ArrayList<>();
        for (Readme.Example e : readme.examples) {
            others.add(new Readme.Example(e.line(), e.call(), e.name(), String.valueOf(numberOf(e.answer()) + 1)));
        }
        readme.examples.clear();
        readme.examples.addAll(others);
        int seen = otherAnswers(readme, dir).size();
        if (seen != others.size()) {
            wrong.add("of " + others.size() + " wrong answers only " + seen + " would be seen");
        }
    }

    // ---- what must be shown

    private static void everyCallIsShown(Readme readme) {
        Set<String> shown = readme.examples.stream().map(Readme.Example::name).collect(Collectors.toSet());
        for (Method m : WeatherHand.class.getDeclaredMethods()) {
            if (Modifier.isPublic(m.getModifiers()) && !shown.contains(m.getName())) {
                wrong.add("README.md shows no example of " + m.getName());
            }
        }
        readme.rows.forEach((name, row) -> {
            if (!row.refusals().equals(readme.refusalsShown(name))) {
                wrong.add("README.md's table says that " + name + " refuses with " + row.refusals()
                        + ", its examples show " + readme.refusalsShown(name));
            }
        });
    }

    private static void callsAreTheDocuments(Readme readme, String document) {
        Map<String, Readme.Row> due = new TreeMap<>();
        Matcher m = Pattern.compile("(?m)^`int (\\w+)\\(([^)]*)\\)`: (.*)$").matcher(document);
        while (m.find()) {
            String parameters = m.group(2).replaceAll("(int|boolean) ", "");
            due.put(m.group(1), new Readme.Row(parameters, Readme.refusalsIn(m.group(3))));
        }
        if (due.isEmpty() || !due.equals(readme.rows)) {
            wrong.add("README.md's table of calls is " + readme.rows + ", the document's is " + due);
        }
    }

    private static void constantsAreTheClasss(Readme readme) throws ReflectiveOperationException {
        Map<String, Integer> due = new TreeMap<>();
        for (String name : new String[] {"NONE", "UNKNOWN", "OUTSIDE", "NOT", "FULL"}) {
            due.put(name, WeatherHand.class.getField(name).getInt(null));
        }
        if (!due.equals(readme.constants)) {
            wrong.add("README.md's constants are " + readme.constants + ", the class's are " + due);
        }
    }

    private static void namedFilesAreThere(String page) {
        Matcher m = Pattern.compile("`((?:\\.\\./|\\.ci/|src/|tools/)[\\w./]+|[A-Z]+\\.md)`").matcher(page);
        while (m.find()) {
            if (!Files.exists(Path.of(m.group(1)))) {
                wrong.add("README.md names " + m.group(1) + ", which is not there");
            }
        }
    }

    private static void everyTestIsNamed(String page) throws IOException {
        Set<String> there = new TreeSet<>();
        try (Stream<Path> files = Files.list(Path.of("src/test/java"))) {
            files.forEach(f -> there.add(f.getFileName().toString().replace(".java", "")));
        }
        there.removeIf(name -> name.compareTo("Promise01NewObject") > 0 && name.compareTo("Promise32GoBack") < 0);
        for (String name : there) {
            if (!page.contains("`" + name + "`")) {
                wrong.add("README.md does not name the test " + name);
            }
        }
    }

    // ---- the first program and the commands

    /** In a copy of the project, so that what the commands make is gone with it. */
    private static void commandsWork(Readme readme, Path scratch) throws Exception {
        Path copy = scratch.resolve("project");
        copyAll(Path.of("src"), copy.resolve("src"));
        Files.copy(Path.of("README.md"), copy.resolve("README.md"));
        Files.createSymbolicLink(scratch.resolve("shared"), Path.of("../shared").toRealPath());
        Files.createDirectory(copy.resolve("out"));
        int ran = 0;
        for (int k = 0; k < readme.blocks.size(); k++) {
            Readme.Block block = readme.blocks.get(k);
            if (block.isProgram()) {
                String name = block.lines().get(0).split(" ")[2];
                Files.writeString(copy.resolve("out").resolve(name + ".java"), block.text());
            } else if (block.kind().equals("sh") && !runsAllTests(block)) {
                ran++;
                boolean saysOutput = k + 1 < readme.blocks.size() && readme.blocks.get(k + 1).kind().equals("text");
                commandsWork(block, copy, saysOutput ? readme.blocks.get(k + 1).text() : null);
            }
        }
        if (ran == 0) {
            wrong.add("README.md shows no command");
        }
    }

    /** These would run this test again, or take minutes. */
    private static boolean runsAllTests(Readme.Block block) {
        return block.text().equals(".ci/run\n") || block.text().equals("java tools/Mutants.java\n");
    }

    private static void commandsWork(Readme.Block block, Path where, String output) throws Exception {
        Process p = new ProcessBuilder("sh", "-e", "-c", block.text()).directory(where.toFile()).redirectErrorStream(true).start();
        p.getOutputStream().close();
        String got = new String(p.getInputStream().readAllBytes(), StandardCharsets.UTF_8);
        if (p.waitFor() != 0) {
            wrong.add("the commands at line " + block.line() + " of README.md fail: " + got);
        } else if (output != null && !got.equals(output)) {
            wrong.add("the commands at line " + block.line() + " of README.md print\n" + got + "README.md says\n" + output);
        }
    }

    private static void copyAll(Path from, Path to) throws IOException {
        try (Stream<Path> files = Files.walk(from)) {
            for (Path f : files.collect(Collectors.toList())) {
                Path target = to.resolve(from.relativize(f).toString());
                if (Files.isDirectory(f)) {
                    Files.createDirectories(target);
                } else {
                    Files.copy(f, target);
                }
            }
        }
    }

    private static void remove(Path scratch) throws IOException {
        try (Stream<Path> files = Files.walk(scratch)) {
            for (Path f : files.sorted(Comparator.reverseOrder()).collect(Collectors.toList())) {
                Files.delete(f);
            }
        }
    }
}
