import java.lang.reflect.Constructor;
import java.lang.reflect.Field;
import java.lang.reflect.Method;
import java.lang.reflect.Modifier;
import java.nio.file.Files;
import java.nio.file.Path;
import java.util.Arrays;
import java.util.Set;
import java.util.TreeSet;
import java.util.regex.Matcher;
import java.util.regex.Pattern;

/** The document's face, and those rules of LANGUAGE.md that can be seen from the class and its text. */
public final class LanguageRules {
    private static final String[] FACE = {
        "feed int", "valley", "fault", "told int", "weather int int", "hand int int", "letter int int int",
        "add int int int boolean", "blot int", "bottle int", "drift int", "undo int", "look int int",
        "written int int int int", "who int int", "dated int int int", "addedAt int int int", "next int int",
        "soonest int int int", "likely int int", "hands int", "forged int int", "air int int int", "rain int",
        "measure int int", "write int int int", "judge", "tear", "seed int", "keep int", "goBack int"};
    private static final String[] BANNED = {
        "throw", "try", "catch", "synchronized", "assert", "import", "package", "protected", "new Object", "Exact",
        "->", "::", "Object", "Random", "currentTimeMillis", "nanoTime", "Thread"};

    private static int wrong = 0;

    private static void fail(String what) {
        wrong++;
        System.out.println(what);
    }

    public static void main(String[] args) throws Exception {
        face();
        fields();
        classesInside();
        text(Files.readString(Path.of("src/main/java/WeatherHand.java")));
        System.out.println(wrong == 0 ? "the rules that can be seen are kept" : wrong + " rules are broken");
        if (wrong != 0) {
            System.exit(1);
        }
    }

    private static void face() {
        Set<String> want = new TreeSet<>(Arrays.asList(FACE));
        Set<String> got = new TreeSet<>();
        for (Method m : WeatherHand.class.getDeclaredMethods()) {
            if (m.isSynthetic()) {
                continue;
            }
            if (Modifier.isPublic(m.getModifiers())) {
                StringBuilder s = new StringBuilder(m.getName());
                for (Class<?> c : m.getParameterTypes()) {
                    s.append(' ').append(c.getName());
                }
                got.add(s.toString());
                if (m.getReturnType() != int.class) {
                    fail(m + " does not answer an int");
                }
            } else if (!Modifier.isPrivate(m.getModifiers())) {
                fail(m + " is neither public nor private");
            }
        }
        if (!want.equals(got)) {
            fail("the face is " + got + ", due is " + want);
        }
        Constructor<?>[] made = WeatherHand.class.getDeclaredConstructors();
        if (made.length != 1 || made[0].getParameterCount() != 0 || !Modifier.isPublic(made[0].getModifiers())) {
            fail("the constructor is not the document's");
        }
        int modifiers = WeatherHand.class.getModifiers();
        if (!Modifier.isFinal(modifiers) || !Modifier.isPublic(modifiers)) {
            fail("the class is not public and final");
        }
    }

    private static void fields() {
        Set<String> constants = new TreeSet<>(Arrays.asList("NONE", "UNKNOWN", "OUTSIDE", "NOT", "FULL"));
        for (Field f : WeatherHand.class.getDeclaredFields()) {
            int m = f.getModifiers();
            if (Modifier.isStatic(m) && !Modifier.isFinal(m)) {
                fail(f + " is static and not final");
            }
            if (!Modifier.isPrivate(m) && !constants.remove(f.getName())) {
                fail(f + " is not of the face");
            }
        }
        if (!constants.isEmpty()) {
            fail("missing constants: " + constants);
        }
    }

    private static void classesInside() {
        Set<String> names = new TreeSet<>();
        for (String s : FACE) {
            names.add(s.split(" ")[0]);
        }
        Class<?>[] inside = WeatherHand.class.getDeclaredClasses();
        if (inside.length > 12) {
            fail(inside.length + " classes inside");
        }
        for (Class<?> c : inside) {
            if (!Modifier.isStatic(c.getModifiers()) || Modifier.isPublic(c.getModifiers())) {
                fail(c + " is not static, or is public");
            }
            for (Method m : c.getDeclaredMethods()) {
                if (names.contains(m.getName())) {
                    fail(m + " bears the name of a public method");
                }
            }
            for (Field f : c.getDeclaredFields()) {
                if (Modifier.isStatic(f.getModifiers()) && !Modifier.isFinal(f.getModifiers())) {
                    fail(f + " is static and not final");
                }
            }
        }
    }

    private static void text(String source) {
        String bare = source.replaceAll("(?s)/\\*.*?\\*/", " ").replaceAll("//[^\n]*", " ");
        for (String word : BANNED) {
            String edge = Character.isLetter(word.charAt(0)) && !word.equals("Exact") ? "\\b" : "";
            if (Pattern.compile(edge + Pattern.quote(word) + edge).matcher(bare).find()) {
                fail("the program has the word " + word);
            }
        }
        for (int k = 0; k < source.length(); k++) {
            if (source.charAt(k) > 126) {
                fail("a sign beyond 126 at " + k);
            }
        }
        methodsStayShort(bare);
    }

    private static void methodsStayShort(String bare) {
        Matcher m = Pattern.compile("\\n( {4}| {8})(?! )[^\\n;=]*\\(([^)]*)\\) \\{\\n(.*?)\\n\\1\\}", Pattern.DOTALL).matcher(bare);
        int seen = 0;
        while (m.find()) {
            seen++;
            int lines = m.group(3).split("\n").length;
            int parameters = m.group(2).isBlank() ? 0 : m.group(2).split(",").length;
            if (lines > 60 || parameters > 7) {
                fail("a method of " + lines + " lines and " + parameters + " parameters: " + m.group().split("\n")[1]);
            }
        }
        if (seen < 40) {
            fail("only " + seen + " methods were seen");
        }
    }
}
