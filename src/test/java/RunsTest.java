import java.lang.reflect.InvocationTargetException;
import java.lang.reflect.Method;
import java.lang.reflect.Modifier;
import java.util.Arrays;
import java.util.HashMap;
import java.util.Map;
import java.util.Random;
import java.util.TreeMap;

/**
 * Long runs of all calls in any order on one object (512 of them), each answer held against Whole: that no
 * answer hangs on what was asked before, and that every promise holds beside all others (promises 1 to 34).
 */
public final class RunsTest {
    private static final Due DUE = new Due("RunsTest");
    private static final int CALLS = 512;
    private static final long[] ODD = {Integer.MIN_VALUE, -61, -2, -1, 0, 1, 2, 3, 4, 7, 8, 9, 40, 41, 59, 60, 61, 255, 256,
        65535, Integer.MAX_VALUE};
    /** How often each call comes, beside those that feed a book. */
    private static final String OFTEN = "sheet sheet set set set copy drop dish step gives fault count count status status "
        + "dinner dinner dinner out out judge judge judge least least least begins begins seven earliest heat heat wanted wanted "
        + "dinners more mend mend slack bears mind mind image restore kind as as ask ask trace trace trace";
    private static final Map<String, Method> CALLED = new HashMap<>();
    private static final Map<String, Integer> ANSWERED = new TreeMap<>();

    public static void main(String[] args) throws ReflectiveOperationException {
        int runs = args.length > 0 ? Integer.parseInt(args[0]) : 150;
        long seed = args.length > 1 ? Long.parseLong(args[1]) : 5;
        for (Method m : HotAtSeven.class.getDeclaredMethods()) {
            if (Modifier.isPublic(m.getModifiers())) CALLED.put(m.getName(), m);
        }
        for (int i = 0; i < runs && !DUE.failed(); i++) new RunsTest(new Random(seed * 1000003 + i), "run " + i).run();
        for (String name : CALLED.keySet()) {
            DUE.is(name + " answered often enough", ANSWERED.getOrDefault(name, 0) >= runs / 5 ? 1 : 0, 1);
        }
        DUE.end();
    }

    private final Random r;
    private final String at;
    private final HotAtSeven x = new HotAtSeven();
    private final Whole whole = new Whole();
    private int called = 0;
    private int time = 60;

    private RunsTest(Random r, String at) {
        this.r = r;
        this.at = at;
    }

    private void run() throws ReflectiveOperationException {
        String[] names = OFTEN.split(" ");
        if (r.nextInt(8) != 0) read(text());
        while (called < CALLS && !DUE.failed()) {
            if (r.nextInt(150) == 0) {
                read(text());
            } else if (r.nextInt(60) == 0) {
                call("feed", r.nextLong(), r.nextInt(10));
                if (r.nextBoolean()) call("book");
            } else if (r.nextInt(40) == 0) {
                layPlan();
            } else {
                String name = names[r.nextInt(names.length)];
                call(name, r.nextInt(30) == 0 ? anything(name) : likely(name));
            }
        }
    }

    /** A book; now and then with a sign put wrong. */
    private String text() {
        String text = PlainTest.book(r);
        while (text.length() > 260) text = PlainTest.book(r);
        if (r.nextInt(5) != 0) return text;
        int i = r.nextInt(text.length());
        return text.substring(0, i) + "09;ak \nA".charAt(r.nextInt(8)) + text.substring(i + r.nextInt(2));
    }

    private void read(String text) throws ReflectiveOperationException {
        for (int i = 0; i < text.length() && called < CALLS; ) {
            int n = Math.min(r.nextInt(3) == 0 ? 1 + r.nextInt(8) : 8, text.length() - i);
            // What stands above the n bytes is not to be taken.
            long w = n < 8 ? r.nextLong() : 0;
            for (int j = 0; j < n; j++) w = w << 8 | text.charAt(i + j);
            call("feed", w, n);
            i += n;
        }
        call("book");
    }

    /** The beginnings of LEAST's plan, or some near them, on a sheet, to be judged. */
    private void layPlan() throws ReflectiveOperationException {
        int sheet = r.nextInt(8);
        call("sheet", sheet, r.nextInt(3), 14);
        int from = r.nextInt(3);
        for (int k = 0; k < 12; k++) {
            int begins = call("begins", time, k);
            if (begins == HotAtSeven.NONE || begins == HotAtSeven.STATE) break;
            call("set", sheet, from + k, begins + (r.nextInt(12) == 0 ? r.nextInt(3) - 1 : 0));
        }
        call("judge", sheet, from, time);
    }

    private int call(String name, long... a) throws ReflectiveOperationException {
        called++;
        Method m = CALLED.get(name);
        Object[] given = new Object[a.length];
        for (int i = 0; i < a.length; i++) {
            if (m.getParameterTypes()[i] == int.class) given[i] = (int) a[i];
            else given[i] = a[i];
        }
        int answer;
        try {
            answer = (int) m.invoke(x, given);
        } catch (InvocationTargetException thrown) {
            throw new IllegalStateException(at + ": " + name + Arrays.toString(a), thrown.getCause());
        }
        DUE.is(at + " call " + called + ": " + name + Arrays.toString(a), answer, whole.call(name, a));
        if (answer > HotAtSeven.NONE) ANSWERED.merge(name, 1, Integer::sum);
        return answer;
    }

    private long[] anything(String name) {
        long[] a = new long[CALLED.get(name).getParameterCount()];
        for (int i = 0; i < a.length; i++) a[i] = ODD[r.nextInt(ODD.length)];
        return a;
    }

    /** Mostly the same time again, so that what was found for it could be told again. */
    private int time() {
        if (r.nextInt(8) == 0) time = r.nextInt(3) == 0 ? 60 : 1 + r.nextInt(60);
        return time;
    }

    private int minute() {
        return r.nextInt(3) == 0 ? r.nextInt(60) : Math.max(0, Math.min(59, time - r.nextInt(12)));
    }

    private long[] likely(String name) {
        int sheet = r.nextInt(r.nextInt(3) == 0 ? 8 : 3);
        switch (name) {
            case "sheet": return new long[] {sheet, r.nextInt(3), r.nextInt(42) - 1};
            case "set": return new long[] {sheet, r.nextInt(12), r.nextInt(3) == 0 ? r.nextInt() : r.nextInt(60)};
            case "copy": return new long[] {sheet, r.nextInt(6), r.nextInt(3), r.nextInt(6), r.nextInt(9) - 1};
            case "drop": return new long[] {r.nextInt(8)};
            case "dish": return new long[] {r.nextInt(5), r.nextInt(7)};
            case "step": return new long[] {r.nextInt(12), r.nextInt(6)};
            case "gives": return new long[] {r.nextInt(61), r.nextInt(5)};
            case "dinner": return new long[] {r.nextInt(r.nextBoolean() ? 8 : 64)};
            case "out": return new long[] {r.nextInt(3) > 0 ? 60 : minute()};
            case "judge": return new long[] {sheet, r.nextInt(3), time()};
            case "least": return new long[] {time(), r.nextInt(5) - 1};
            case "begins", "slack": return new long[] {time(), r.nextInt(7)};
            case "seven", "more": return new long[] {time()};
            case "heat", "mend", "mind": return new long[] {time(), minute()};
            case "wanted": return new long[] {time(), minute(), r.nextInt(4)};
            case "dinners": return new long[] {1 + r.nextInt(3), time(), r.nextInt(2)};
            case "bears": return new long[] {time(), r.nextInt(5), 1 + r.nextInt(2)};
            case "image", "restore": return new long[] {r.nextInt(2)};
            case "kind": return new long[] {r.nextInt(12)};
            case "as": return new long[] {r.nextInt(12), r.nextInt(7)};
            case "ask": return new long[] {r.nextInt(12), r.nextInt(2)};
            case "trace": return new long[] {r.nextInt(6)};
            case "count": return new long[] {r.nextInt(8)};
            default: return new long[0];
        }
    }
}
