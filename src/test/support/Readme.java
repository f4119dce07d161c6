import java.util.ArrayList;
import java.util.List;
import java.util.Map;
import java.util.Set;
import java.util.TreeMap;
import java.util.TreeSet;
import java.util.regex.Matcher;
import java.util.regex.Pattern;

/** A page with examples, as a reader takes it: its blocks, the calls in them with what they are said to answer, its tables. */
final class Readme {
    /** A block between fences; its lines begin at that line of the page. */
    record Block(String kind, int line, List<String> lines) {
        String text() {
            return String.join("\n", lines) + "\n";
        }

        boolean isProgram() {
            return kind.equals("java") && lines.get(0).startsWith("public class ");
        }

        boolean isHelper() {
            return kind.equals("java") && lines.get(0).startsWith("static ");
        }

        boolean isRun() {
            return kind.equals("java") && !isProgram() && !isHelper();
        }
    }

    /** A call with the answer that the page says. */
    record Example(int line, String call, String name, String answer) { }

    /** A call of the table: its parameters' names and what it refuses with. */
    record Row(String parameters, Set<String> refusals) { }

    private static final Pattern EXAMPLE =
            Pattern.compile("((?:x\\.)?(\\w+)\\(.*\\));\\s+// (-?\\d+|NONE|UNKNOWN|OUTSIDE|NOT|FULL)(?:: .+)?");
    private static final Pattern PREPARED = Pattern.compile("WeatherHand x = new WeatherHand\\(\\);|for \\(.*\\) x\\..*;");
    private static final Pattern ROW = Pattern.compile("\\| `(\\w+)\\(([^)]*)\\)` \\|.*\\|([^|]*)\\|");
    private static final Pattern CONSTANT = Pattern.compile("\\| `([A-Z]+)` \\| (-?\\d+) \\|.*");

    final List<Block> blocks = new ArrayList<>();
    final List<Example> examples = new ArrayList<>();
    final List<String> unsaid = new ArrayList<>();
    final Map<String, Row> rows = new TreeMap<>();
    final Map<String, Integer> constants = new TreeMap<>();

    Readme(String page) {
        String[] lines = page.split("\n");
        for (int k = 0; k < lines.length; k++) {
            if (lines[k].startsWith("```")) {
                Block block = blockFrom(lines, k);
                blocks.add(block);
                k += block.lines().size() + 1;
            } else {
                readTable(lines[k]);
            }
        }
        for (Block block : blocks) {
            if (block.isRun()) {
                readExamples(block);
            }
        }
    }

    private static Block blockFrom(String[] lines, int fence) {
        List<String> inside = new ArrayList<>();
        for (int k = fence + 1; k < lines.length && !lines[k].startsWith("```"); k++) {
            inside.add(lines[k]);
        }
        return new Block(lines[fence].substring(3), fence + 2, inside);
    }

    private void readTable(String line) {
        Matcher row = ROW.matcher(line);
        if (row.matches()) {
            rows.put(row.group(1), new Row(row.group(2), refusalsIn(row.group(3))));
        }
        Matcher constant = CONSTANT.matcher(line);
        if (constant.matches()) {
            constants.put(constant.group(1), Integer.parseInt(constant.group(2)));
        }
    }

    private void readExamples(Block block) {
        for (int k = 0; k < block.lines().size(); k++) {
            String line = block.lines().get(k);
            Matcher m = EXAMPLE.matcher(line);
            if (m.matches()) {
                examples.add(new Example(block.line() + k, m.group(1), m.group(2), m.group(3)));
            } else if (!PREPARED.matcher(line).matches()) {
                unsaid.add("line " + (block.line() + k) + " says no answer: " + line);
            }
        }
    }

    static Set<String> refusalsIn(String words) {
        Set<String> out = new TreeSet<>();
        Matcher m = Pattern.compile("\\b(UNKNOWN|OUTSIDE|NOT|FULL)\\b").matcher(words);
        while (m.find()) {
            out.add(m.group());
        }
        return out;
    }

    /** The refusals that the examples show of a call. */
    Set<String> refusalsShown(String name) {
        Set<String> out = new TreeSet<>();
        for (Example e : examples) {
            if (e.name().equals(name)) {
                out.addAll(refusalsIn(e.answer()));
            }
        }
        return out;
    }

    /** A class whose run() makes every example call and notes by line what it answered. */
    String sourceOfRun(String className) {
        Map<Integer, Example> byLine = new TreeMap<>();
        examples.forEach(e -> byLine.put(e.line(), e));
        StringBuilder members = new StringBuilder();
        StringBuilder calls = new StringBuilder();
        for (Block block : blocks) {
            if (block.isHelper()) {
                members.append(block.text());
            } else if (block.isRun()) {
                String name = "block" + block.line();
                calls.append(name).append("();\n");
                members.append("static void ").append(name).append("() {\n").append(bodyOf(block, byLine)).append("}\n");
            }
        }
        return "public final class " + className + " {\n"
                + "public static final java.util.Map<Integer, Integer> GOT = new java.util.TreeMap<>();\n"
                + members + "public static void run() {\n" + calls + "}\n}\n";
    }

    private static String bodyOf(Block block, Map<Integer, Example> byLine) {
        StringBuilder body = new StringBuilder();
        for (int k = 0; k < block.lines().size(); k++) {
            Example e = byLine.get(block.line() + k);
            body.append(e == null ? block.lines().get(k) : "GOT.put(" + e.line() + ", " + e.call() + ");").append("\n");
        }
        return body.toString();
    }
}
