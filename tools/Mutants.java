import java.io.ByteArrayOutputStream;
import java.io.OutputStream;
import java.io.PrintStream;
import java.lang.reflect.Field;
import java.lang.reflect.InvocationTargetException;
import java.lang.reflect.Method;
import java.net.URI;
import java.nio.file.Files;
import java.nio.file.Path;
import java.util.ArrayList;
import java.util.Collection;
import java.util.Collections;
import java.util.Comparator;
import java.util.HashMap;
import java.util.LinkedHashSet;
import java.util.List;
import java.util.Map;
import java.util.Set;
import java.util.TreeMap;
import java.util.TreeSet;
import java.util.concurrent.Callable;
import java.util.concurrent.ExecutorService;
import java.util.concurrent.Executors;
import java.util.concurrent.Future;
import java.util.regex.Matcher;
import java.util.regex.Pattern;
import java.util.stream.Collectors;
import java.util.stream.Stream;
import javax.tools.FileObject;
import javax.tools.ForwardingJavaFileManager;
import javax.tools.JavaCompiler;
import javax.tools.JavaFileManager;
import javax.tools.JavaFileObject;
import javax.tools.SimpleJavaFileObject;
import javax.tools.StandardJavaFileManager;
import javax.tools.StandardLocation;
import javax.tools.ToolProvider;

/**
 * Breaks the class in one place at a time and asks whether a boundary test sees it. Prints the breaks that no test
 * saw, to be read by a person: some break nothing that can be seen. Also prints the tests that saw no break at all.
 * Run from the project's root: java tools/Mutants.java
 */
public final class Mutants {
    private static final Path CLASS = Path.of("src/main/java/WeatherHand.java");
    private static final long PATIENCE = 20000;

    record Mutant(int line, String was, String is, String source) { }

    record Outcome(Mutant mutant, boolean compiled, boolean slow, Set<String> seenBy) { }

    private static final String[][] SWAPS = {
        {" < ", " <= "}, {" <= ", " < "}, {" > ", " >= "}, {" >= ", " > "}, {" == ", " != "}, {" != ", " == "},
        {" && ", " || "}, {" || ", " && "}, {" + ", " - "}, {" - ", " + "}, {" * ", " + "}, {" / ", " % "}, {" % ", " / "},
        {"++", "--"}, {"--", "++"}, {"(!", "("}, {" !", " "}, {"Math.min", "Math.max"},
        {"Math.max", "Math.min"}, {"UNKNOWN", "OUTSIDE"}, {"OUTSIDE", "NOT"}, {"return NOT", "return FULL"},
        {"FULL", "NOT"}, {"NONE", "0"}, {"true", "false"}, {"false", "true"}, {" += ", " -= "}, {" |= ", " = "}};

    public static void main(String[] args) throws Exception {
        Map<String, byte[]> tests = compile(sourcesOfTests());
        String source = Files.readString(CLASS);
        List<Mutant> mutants = mutantsOf(source);
        ExecutorService pool = Executors.newFixedThreadPool(Runtime.getRuntime().availableProcessors(), Mutants::daemon);
        List<Future<Outcome>> waiting = new ArrayList<>();
        PrintStream out = System.out;
        System.setOut(new PrintStream(OutputStream.nullOutputStream()));
        for (Mutant m : mutants) {
            waiting.add(pool.submit((Callable<Outcome>) () -> tried(m, tests)));
        }
        Set<String> idle = new TreeSet<>(namesOfTests(tests));
        int killed = 0;
        int endless = 0;
        int none = 0;
        Map<Integer, List<Outcome>> left = new TreeMap<>();
        for (Future<Outcome> f : waiting) {
            Outcome o = f.get();
            idle.removeAll(o.seenBy());
            if (!o.compiled()) {
                none++;
            } else if (o.seenBy().isEmpty() && o.slow()) {
                endless++;
            } else if (o.seenBy().isEmpty()) {
                left.computeIfAbsent(o.mutant().line(), k -> new ArrayList<>()).add(o);
            } else {
                killed++;
            }
        }
        pool.shutdownNow();
        left.values().forEach(row -> row.forEach(o -> out.println(
                o.mutant().line() + ": " + o.mutant().was().strip() + "   ->   " + o.mutant().is().strip())));
        int survived = left.values().stream().mapToInt(List::size).sum();
        out.println(mutants.size() + " breaks: " + killed + " seen, " + endless + " did not end, "
                + survived + " not seen, " + none + " do not compile");
        idle.forEach(name -> out.println("saw no break: " + name));
        System.exit(0);
    }

    /** So that the machine ends with main, even if main ends by a fault of its own. */
    private static Thread daemon(Runnable work) {
        Thread t = new Thread(work);
        t.setDaemon(true);
        return t;
    }

    private static List<Mutant> mutantsOf(String source) {
        String[] lines = source.split("\n", -1);
        List<Mutant> out = new ArrayList<>();
        for (int k = 0; k < lines.length; k++) {
            String line = lines[k];
            String bare = line.strip();
            if (bare.startsWith("//") || bare.startsWith("/*") || bare.startsWith("*")) {
                continue;
            }
            Set<String> changed = new LinkedHashSet<>();
            for (String[] swap : SWAPS) {
                for (int at = line.indexOf(swap[0]); at >= 0; at = line.indexOf(swap[0], at + 1)) {
                    changed.add(line.substring(0, at) + swap[1] + line.substring(at + swap[0].length()));
                }
            }
            Matcher m = Pattern.compile("(?<![\\w'])\\d+(?![\\w'])").matcher(line);
            while (m.find() && m.group().length() < 8) {
                int value = Integer.parseInt(m.group());
                changed.add(line.substring(0, m.start()) + (value + 1) + line.substring(m.end()));
                if (value > 0) {
                    changed.add(line.substring(0, m.start()) + (value - 1) + line.substring(m.end()));
                }
            }
            Matcher either = Pattern.compile("^(.* \\? )(.*)( : )(.*);$").matcher(line);
            if (either.find()) {
                changed.add(either.group(1) + either.group(4) + either.group(3) + either.group(2) + ";");
            }
            if (bare.endsWith(";") && !bare.startsWith("return") && !bare.startsWith("final") && !bare.startsWith("private")) {
                changed.add(line.replace(bare, ";"));
            }
            changed.remove(line);
            for (String is : changed) {
                String[] copy = lines.clone();
                copy[k] = is;
                out.add(new Mutant(k + 1, line, is, String.join("\n", copy)));
            }
        }
        return out;
    }

    private static Outcome tried(Mutant m, Map<String, byte[]> tests) throws Exception {
        Map<String, byte[]> broken = compile(Map.of("WeatherHand", m.source()));
        if (broken == null) {
            return new Outcome(m, false, false, Set.of());
        }
        Map<String, byte[]> all = new HashMap<>(tests);
        all.keySet().removeIf(name -> name.equals("WeatherHand") || name.startsWith("WeatherHand$"));
        all.putAll(broken);
        Set<String> seenBy = Collections.synchronizedSet(new TreeSet<>());
        Thread t = new Thread(() -> runAll(all, seenBy));
        t.setDaemon(true);
        t.start();
        t.join(PATIENCE);
        boolean slow = t.isAlive();
        if (slow) {
            stop(t);
        }
        return new Outcome(m, true, slow, copyOf(seenBy));
    }

    /** A thread that is being stopped may still add to the set, so it is held while it is copied. */
    private static Set<String> copyOf(Set<String> seenBy) {
        synchronized (seenBy) {
            return new TreeSet<>(seenBy);
        }
    }

    @SuppressWarnings({"deprecation", "removal"})
    private static void stop(Thread t) {
        t.stop();
    }

    private static void runAll(Map<String, byte[]> classes, Set<String> seenBy) {
        try {
            ClassLoader loader = new Loaded(classes);
            Field wrong = loader.loadClass("Boundary").getDeclaredField("wrong");
            wrong.setAccessible(true);
            Collection<?> lines = (Collection<?>) wrong.get(null);
            for (String name : new TreeSet<>(classes.keySet())) {
                if (!name.startsWith("Promise") || name.contains("$") || name.equals("PromiseRuns")) {
                    continue;
                }
                for (Method m : loader.loadClass(name).getDeclaredMethods()) {
                    if (!m.getName().startsWith("promise") || m.isSynthetic()) {
                        continue;
                    }
                    m.setAccessible(true);
                    lines.clear();
                    boolean threw = false;
                    try {
                        m.invoke(null);
                    } catch (InvocationTargetException e) {
                        threw = true;
                    }
                    if (threw || !lines.isEmpty()) {
                        seenBy.add(m.getName());
                    }
                }
            }
        } catch (ReflectiveOperationException e) {
            throw new IllegalStateException(e);
        }
    }

    private static Set<String> namesOfTests(Map<String, byte[]> tests) throws ReflectiveOperationException {
        Set<String> names = new TreeSet<>();
        ClassLoader loader = new Loaded(tests);
        for (String name : tests.keySet()) {
            if (name.startsWith("Promise") && !name.contains("$")) {
                for (Method m : loader.loadClass(name).getDeclaredMethods()) {
                    if (m.getName().startsWith("promise") && m.getName().contains("_")) {
                        names.add(m.getName());
                    }
                }
            }
        }
        return names;
    }

    private static Map<String, String> sourcesOfTests() throws Exception {
        Map<String, String> out = new HashMap<>();
        for (String dir : new String[] {"src/main/java", "src/test/support", "src/test/java"}) {
            try (Stream<Path> files = Files.list(Path.of(dir))) {
                for (Path p : files.sorted(Comparator.naturalOrder()).collect(Collectors.toList())) {
                    out.put(p.getFileName().toString().replace(".java", ""), Files.readString(p));
                }
            }
        }
        return out;
    }

    /** Classes by name, or null if the sources do not compile. */
    private static Map<String, byte[]> compile(Map<String, String> sources) throws Exception {
        JavaCompiler compiler = ToolProvider.getSystemJavaCompiler();
        Map<String, ByteArrayOutputStream> made = new HashMap<>();
        try (StandardJavaFileManager standard = compiler.getStandardFileManager(d -> { }, null, null)) {
            standard.setLocation(StandardLocation.CLASS_PATH, List.of());
            JavaFileManager inMemory = new ForwardingJavaFileManager<JavaFileManager>(standard) {
                @Override
                public JavaFileObject getJavaFileForOutput(Location where, String name, JavaFileObject.Kind kind, FileObject from) {
                    return new SimpleJavaFileObject(URI.create("mem:///" + name + ".class"), kind) {
                        @Override
                        public OutputStream openOutputStream() {
                            ByteArrayOutputStream bytes = new ByteArrayOutputStream();
                            made.put(name, bytes);
                            return bytes;
                        }
                    };
                }
            };
            List<JavaFileObject> units = new ArrayList<>();
            sources.forEach((name, text) -> units.add(
                    new SimpleJavaFileObject(URI.create("mem:///" + name + ".java"), JavaFileObject.Kind.SOURCE) {
                        @Override
                        public CharSequence getCharContent(boolean ignore) {
                            return text;
                        }
                    }));
            List<String> options = List.of("-proc:none", "-nowarn");
            if (!compiler.getTask(null, inMemory, d -> { }, options, null, units).call()) {
                return null;
            }
        }
        Map<String, byte[]> out = new HashMap<>();
        made.forEach((name, bytes) -> out.put(name, bytes.toByteArray()));
        return out;
    }

    static final class Loaded extends ClassLoader {
        private final Map<String, byte[]> classes;

        Loaded(Map<String, byte[]> classes) {
            super(Mutants.class.getClassLoader());
            this.classes = classes;
        }

        @Override
        protected Class<?> findClass(String name) throws ClassNotFoundException {
            byte[] b = classes.get(name);
            if (b == null) {
                throw new ClassNotFoundException(name);
            }
            return defineClass(name, b, 0, b.length);
        }
    }
}
