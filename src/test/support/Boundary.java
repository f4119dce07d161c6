import java.lang.reflect.InvocationTargetException;
import java.lang.reflect.Method;
import java.lang.reflect.Modifier;
import java.util.ArrayList;
import java.util.Arrays;
import java.util.Comparator;
import java.util.List;
import java.util.function.Supplier;
import java.util.function.ToIntFunction;

/** What the boundary tests share: each static method whose name begins with "promise" is a test of its own. */
abstract class Boundary {
    static final int NONE = -1;
    static final int UNKNOWN = -1000000001;
    static final int OUTSIDE = -1000000002;
    static final int NOT = -1000000003;
    static final int FULL = -1000000004;
    static final int LEAST = Integer.MIN_VALUE;
    static final int MOST = Integer.MAX_VALUE;

    /**
     * Wind turns by 3, damp 2, light 10 hours, rain 1, 0, 5. Paper 0: 3022, 6034, 1034, 4022 at 9 to 12 by hand 0;
     * paper 1: 5019, 8029 at 94 and 95 by hand 2, ended by the end of the hours.
     */
    static final String VALLEY = "v3 2 10;d1,0,5;h0 1 2;h8 8 8;h3 0 7;p0 9 4;p2 94 5;";

    /** Always light, never damp: a hand's look at t is 1000 times what t leaves over by 8, for the hand 0 0 0. */
    static final String WINDY = "v1 0 12;h0 0 0;";

    /** No wind, always light, never damp: every hour is like every other. */
    static final String CALM = "v0 0 12;h0 0 0;";

    /** The hand 0 0 0 makes 40 at hour 0 alone, and 7042 at hour 95 alone. */
    static final String EDGES = "v1 0 8;d8,0,0,0,0,0,0,4;h0 0 0;";

    private static final List<String> wrong = new ArrayList<>();

    static void run(Class<?> tests) {
        Patience.begin();
        Method[] methods = tests.getDeclaredMethods();
        Arrays.sort(methods, Comparator.comparing(Method::getName));
        int ran = 0;
        int failed = 0;
        for (Method m : methods) {
            if (!m.getName().startsWith("promise") || !Modifier.isStatic(m.getModifiers())) {
                continue;
            }
            ran++;
            wrong.clear();
            call(m);
            if (!wrong.isEmpty()) {
                failed++;
                System.out.println(m.getName() + " does not hold:");
                wrong.forEach(line -> System.out.println("  " + line));
            }
        }
        System.out.println(tests.getSimpleName() + ": " + ran + " boundaries, " + failed + " do not hold");
        if (failed != 0 || ran == 0) {
            System.exit(1);
        }
    }

    private static void call(Method m) {
        try {
            m.setAccessible(true);
            m.invoke(null);
        } catch (InvocationTargetException e) {
            wrong.add("a call threw " + e.getCause());
        } catch (IllegalAccessException e) {
            wrong.add("it cannot be called: " + e);
        }
    }

    static void due(String call, int got, int want) {
        if (got != want) {
            wrong.add(call + " answered " + got + ", due is " + want);
        }
    }

    static void feed(WeatherHand x, String text) {
        for (int k = 0; k < text.length(); k++) {
            x.feed(text.charAt(k));
        }
    }

    /** A new object with the valley of a text that must have no fault. */
    static WeatherHand of(String text) {
        WeatherHand x = new WeatherHand();
        feed(x, text);
        int answer = x.valley();
        if (answer < 0) {
            wrong.add("valley() of '" + text + "' answered " + answer);
        }
        return x;
    }

    static void reads(String text, int papers) {
        WeatherHand x = new WeatherHand();
        feed(x, text);
        due("valley() of '" + text + "'", x.valley(), papers);
        due("fault() of '" + text + "'", x.fault(), NONE);
        due("told(0) of '" + text + "'", x.told(0), 1);
        due("told(5) of '" + text + "'", x.told(5), papers);
    }

    static void faults(String text, int kind, int at) {
        WeatherHand x = new WeatherHand();
        feed(x, text);
        due("valley() of '" + text + "'", x.valley(), -10 - kind);
        due("fault() of '" + text + "'", x.fault(), at);
        due("told(0) of '" + text + "'", x.told(0), 0);
    }

    /** Has something of all there is: text, seed, bottle, a forged letter, a measured place, a book, an image, deeds. */
    static WeatherHand busy() {
        WeatherHand x = of(VALLEY);
        x.seed(77);
        x.bottle(5);
        x.measure(0, 0);
        x.write(0, 0, 3022);
        x.keep(0);
        x.seed(78);
        x.add(0, 1, 33, true);
        x.add(1, 0, 40, false);
        x.bottle(9);
        x.feed('v');
        return x;
    }

    /** The call is refused so, and the object goes on like its twin that was not asked. */
    static void refused(Supplier<WeatherHand> made, String call, int want, ToIntFunction<WeatherHand> asked) {
        WeatherHand x = made.get();
        due(call, asked.applyAsInt(x), want);
        goesOnLike(call, x, made.get());
    }

    static void refused(String call, int want, ToIntFunction<WeatherHand> asked) {
        refused(Boundary::busy, call, want, asked);
    }

    static void changesNothing(String call, ToIntFunction<WeatherHand> asked) {
        WeatherHand x = busy();
        asked.applyAsInt(x);
        goesOnLike(call, x, busy());
    }

    static void goesOnLike(String call, WeatherHand x, WeatherHand twin) {
        alike(call, x, twin);
        due("undo(1) behind " + call, x.undo(1), twin.undo(1));
        alike(call + ", undo(1)", x, twin);
        due("goBack(1) behind " + call, x.goBack(1), twin.goBack(1));
        due("goBack(0) behind " + call, x.goBack(0), twin.goBack(0));
        alike(call + ", goBack(0)", x, twin);
        due("valley() behind " + call, x.valley(), twin.valley());
        due("fault() behind " + call, x.fault(), twin.fault());
    }

    private static void alike(String call, WeatherHand x, WeatherHand twin) {
        String got = state(x);
        String want = state(twin);
        if (!got.equals(want)) {
            wrong.add("behind " + call + " it is " + got + ", due is " + want);
        }
    }

    /** All that can be seen of an object, some seventy calls. */
    static String state(WeatherHand x) {
        return "text " + x.told(6) + ", fault " + x.fault() + ", " + stateWithoutText(x);
    }

    static String stateWithoutText(WeatherHand x) {
        StringBuilder s = new StringBuilder("told");
        for (int what = 0; what <= 10; what++) {
            s.append(' ').append(what == 6 ? 0 : x.told(what));
        }
        int seed = x.seed(0);
        x.seed(seed);
        s.append(", judge ").append(x.judge()).append(", seed ").append(seed);
        for (int p = 0; p < x.told(5); p++) {
            s.append(", paper");
            for (int l = 0; l < x.letter(p, NONE, 0); l++) {
                for (int what = 0; what < 5; what++) {
                    s.append(what == 0 ? ' ' : '/').append(x.letter(p, l, what));
                }
            }
        }
        return s.toString();
    }

    /** Adds letters by hand 0 at one hour till the paper has so many. */
    static void fill(WeatherHand x, int p, int t, int letters) {
        for (int k = x.letter(p, NONE, 0); k < letters; k++) {
            x.add(p, 0, t, false);
        }
    }

    static void empty(WeatherHand x, int p) {
        for (int k = x.letter(p, NONE, 0); k > 0; k--) {
            x.blot(p);
        }
    }

    /** The seed behind so many draws, by the document's words. */
    static long seedBehind(long seed, int draws) {
        long s = seed;
        for (int k = 0; k < draws; k++) {
            s = (s * 1103515245L + 12345L) % 2147483648L;
        }
        return s;
    }

    static int drawOf(long seed, int draws, int n) {
        return (int) (seedBehind(seed, draws) / 65536 % n);
    }
}
