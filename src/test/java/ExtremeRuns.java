import java.lang.reflect.InvocationTargetException;
import java.lang.reflect.Method;
import java.util.ArrayList;
import java.util.Arrays;
import java.util.Comparator;
import java.util.List;

/** Every call with every mixture of numbers at and beyond its bounds, in several states, against the model. */
public final class ExtremeRuns {
    private static final int[] EDGES = {Integer.MIN_VALUE, -1000000001, -2, -1, 0, 1, 2, 3, 4, 5, 7, 8, 11, 12, 20, 30, 31, 95, 96,
        255, 256, 9999, 10000, Integer.MAX_VALUE};
    /** For calls of many numbers, so that their mixtures stay few. */
    private static final int[] FEWER = {Integer.MIN_VALUE, -2, -1, 0, 1, 4, 11, 12, 96, Integer.MAX_VALUE};
    /** Leaves room for what makes the state. */
    private static final int CALLS = 300;
    private static final String FULL_VALLEY = "v7 9 6;d9,0,3;h8 8 8;h0 0 0;h4 2 7;h1 8 0;p0 84 12;p1 0 12;p2 90 12;p3 95 1;";
    private static final String SMALL_VALLEY = "v3 2 10;d1,0,5;h0 1 2;h8 8 8;p0 9 4;p1 94 5;";

    private static int wrong = 0;
    private static int calls = 0;

    private WeatherHand x;
    private ModelRuns.Model m;
    private int asked;
    private final int state;

    private ExtremeRuns(int state) {
        this.state = state;
        begin();
    }

    public static void main(String[] args) throws ReflectiveOperationException {
        Patience.begin();
        Method[] face = WeatherHand.class.getMethods();
        Arrays.sort(face, Comparator.comparing(Method::getName));
        for (int state = 0; state < 4; state++) {
            ExtremeRuns run = new ExtremeRuns(state);
            for (Method call : face) {
                if (call.getDeclaringClass() == WeatherHand.class && call.getParameterCount() > 0) {
                    run.askAll(call);
                }
            }
        }
        System.out.println(wrong == 0 ? calls + " extreme calls agree with the model" : wrong + " extreme calls do not agree");
        if (wrong != 0) {
            System.exit(1);
        }
    }

    private void begin() {
        x = new WeatherHand();
        m = new ModelRuns.Model();
        asked = 0;
        if (state > 0) {
            tell(state == 1 ? "v0 0 12;h0 0 0;" : state == 2 ? SMALL_VALLEY : FULL_VALLEY);
        }
        if (state > 1) {
            int[] deed = {x.bottle(5), m.bottle(5), x.blot(0), m.blot(0), x.add(0, 1, 7, true), m.add(0, 1, 7, true),
                x.measure(0, 0), m.measure(0, 0), x.keep(1), m.keep(1), x.bottle(9), m.bottle(9)};
            for (int k = 0; k < deed.length; k += 2) {
                check("what makes the state " + state, deed[k], deed[k + 1]);
            }
        }
    }

    private void tell(String text) {
        for (int k = 0; k < text.length(); k++) {
            check("feed", x.feed(text.charAt(k)), m.feed(text.charAt(k)));
        }
        check("valley", x.valley(), m.valley());
    }

    private static void check(String call, int got, int want) {
        calls++;
        if (got != want) {
            wrong++;
            if (wrong <= 20) {
                System.out.println(call + " answered " + got + ", the model says " + want);
            }
        }
    }

    private void askAll(Method call) throws ReflectiveOperationException {
        Method twin = ModelRuns.Model.class.getDeclaredMethod(call.getName(), call.getParameterTypes());
        twin.setAccessible(true);
        for (Object[] numbers : mixtures(call.getParameterTypes())) {
            if (isFree(call, numbers)) {
                continue;
            }
            if (asked >= CALLS) {
                begin();
            }
            asked++;
            String told = "state " + state + ": " + call.getName() + Arrays.toString(numbers);
            int want = (Integer) twin.invoke(m, numbers);
            try {
                check(told, (Integer) call.invoke(x, numbers), want);
            } catch (InvocationTargetException e) {
                wrong++;
                System.out.println(told + " threw " + e.getCause());
                begin();
            }
        }
    }

    /** The document does not say what W, D, L are without a valley. */
    private boolean isFree(Method call, Object[] numbers) {
        int first = (Integer) numbers[0];
        return call.getName().equals("told") && state == 0 && first >= 1 && first <= 3;
    }

    private static List<Object[]> mixtures(Class<?>[] types) {
        List<Object[]> out = new ArrayList<>();
        out.add(new Object[types.length]);
        for (int k = 0; k < types.length; k++) {
            List<Object[]> longer = new ArrayList<>();
            for (Object[] row : out) {
                for (Object value : valuesOf(types[k], types.length)) {
                    Object[] copy = row.clone();
                    copy[k] = value;
                    longer.add(copy);
                }
            }
            out = longer;
        }
        return out;
    }

    private static List<Object> valuesOf(Class<?> type, int parameters) {
        List<Object> out = new ArrayList<>();
        if (type == boolean.class) {
            out.add(false);
            out.add(true);
        } else {
            for (int value : parameters > 3 ? FEWER : EDGES) {
                out.add(value);
            }
        }
        return out;
    }
}
