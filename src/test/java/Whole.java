import java.util.ArrayList;
import java.util.HashMap;
import java.util.List;
import java.util.Map;

/**
 * A whole object as the document tells it, all 34 promises, call by call, with nothing remembered that the
 * document does not name: to hold long runs of calls against. Plans come from Plain. (Plans that were found
 * once are looked up again by all that they hang on, or a run would last for minutes.)
 */
final class Whole {
    private static final int NONE = -1000000, BAD = -1000001, STATE = -1000002, FULL = -1000003;
    private static final String[] FINDINGS = {"", "NULL", "PLACE", "KIND", "SIZE", "STORE"};
    /** By its kind: which kinds a step is. */
    private static final int[][] IS = {{0}, {1, 0}, {2, 0}, {3, 0}, {4, 0}, {5, 4, 0}, {6, 1, 0}};
    private static final Map<String, int[][]> LEAST = new HashMap<>();
    private static final Map<String, Integer> OTHER = new HashMap<>();

    private final int[][] sheets = new int[8][];
    private final int[] lanes = new int[8];
    private final StringBuilder tape = new StringBuilder();
    private final Kept[] images = new Kept[2];
    private final List<Integer> trace = new ArrayList<>();
    private Plain book;
    private String text;
    private int status, fault;

    private record Kept(String text, List<Integer> dinner, int out) { }

    /** Any call by its name. */
    int call(String name, long... a) {
        int[] n = new int[5];
        for (int i = 0; i < a.length; i++) n[i] = (int) a[i];
        return switch (name) {
            case "sheet" -> sheet(n[0], n[1], n[2]);
            case "set" -> set(n[0], n[1], n[2]);
            case "copy" -> copy(n[0], n[1], n[2], n[3], n[4]);
            case "drop" -> drop(n[0]);
            case "feed" -> feed(a[0], n[1]);
            case "book" -> book();
            case "fault" -> fault;
            case "dish" -> dish(n[0], n[1]);
            case "step" -> step(n[0], n[1]);
            case "gives" -> gives(n[0], n[1]);
            case "dinner" -> dinner(n[0]);
            case "out" -> out(n[0]);
            case "judge" -> judge(n[0], n[1], n[2]);
            case "image" -> image(n[0]);
            case "restore" -> restore(n[0]);
            case "kind" -> find(n[0]) == null ? BAD : kind(find(n[0]));
            case "as" -> as(n[0], n[1]);
            case "ask" -> ask(n[0], n[1]);
            case "trace" -> n[0] >= 0 && n[0] < Math.min(16, trace.size()) ? trace.get(n[0]) : NONE;
            case "count" -> count(n[0]);
            case "status" -> status;
            default -> ofPlans(name, n);
        };
    }

    // ---- sheets

    private int finding(String name) {
        status = List.of(FINDINGS).indexOf(name);
        return -1000010 - status;
    }

    private int fine(int answer) {
        status = 0;
        return answer;
    }

    private static boolean within(int n, int least, int most) {
        return n >= least && n <= most;
    }

    private int sheet(int sheet, int lane, int n) {
        if (!within(sheet, 0, 7) || !within(lane, 0, 2) || n > 40) return BAD;
        if (n < 0) return finding("SIZE");
        sheets[sheet] = new int[n];
        lanes[sheet] = lane;
        return fine(n);
    }

    private int set(int sheet, int i, int v) {
        if (!within(sheet, 0, 7)) return BAD;
        if (sheets[sheet] == null) return finding("NULL");
        if (!within(i, 0, sheets[sheet].length - 1)) return finding("PLACE");
        int shift = lanes[sheet] == 0 ? 24 : lanes[sheet] == 1 ? 16 : 0;
        sheets[sheet][i] = v << shift >> shift;
        return fine(sheets[sheet][i]);
    }

    private int copy(int a, int i, int b, int j, int n) {
        if (!within(a, 0, 7) || !within(b, 0, 7)) return BAD;
        if (sheets[a] == null || sheets[b] == null) return finding("NULL");
        if (lanes[a] != lanes[b]) return finding("STORE");
        if (i < 0 || j < 0 || n < 0 || (long) i + n > sheets[a].length || (long) j + n > sheets[b].length) return finding("PLACE");
        int[] before = sheets[a].clone();
        for (int k = 0; k < n; k++) sheets[b][j + k] = before[i + k];
        return fine(n);
    }

    private int drop(int sheet) {
        if (!within(sheet, 0, 7)) return BAD;
        if (sheets[sheet] == null) return finding("NULL");
        int had = sheets[sheet].length;
        sheets[sheet] = null;
        return fine(had);
    }

    // ---- books, dinners

    private int feed(long w, int n) {
        if (!within(n, 1, 8)) return BAD;
        if (tape.length() + n > 600) return FULL;
        for (int i = n - 1; i >= 0; i--) tape.append((char) (w >>> 8 * i & 255));
        return tape.length();
    }

    private int book() {
        Plain read = new Plain();
        String told = tape.toString();
        tape.setLength(0);
        if (!read.read(told)) {
            fault = read.fault;
            return -1000100 - read.place;
        }
        book = read;
        text = told;
        return book.dishes.size();
    }

    private int dish(int dish, int what) {
        if (book == null || !within(dish, 0, book.dishes.size() - 1) || !within(what, 0, 5)) return BAD;
        Plain.Dish d = book.dishes.get(dish);
        return new int[] {d.keep, d.cold, d.pan, d.steps.size(), d.steps.get(0).number, book.choices(d, 60).size()}[what];
    }

    private Plain.Step find(int step) {
        if (book == null) return null;
        for (Plain.Dish d : book.dishes) for (Plain.Step s : d.steps) if (s.number == step) return s;
        return null;
    }

    private int step(int step, int what) {
        Plain.Step s = find(step);
        if (s == null || !within(what, 0, 4)) return BAD;
        return new int[] {s.length, s.wait, s.stir, s.third, s.high}[what];
    }

    private int gives(int minute, int what) {
        if (book == null) return STATE;
        if (!within(minute, 0, 59) || !within(what, 0, 4)) return BAD;
        return new int[] {book.rings(minute), book.bigs(minute), book.kitchen[2], book.hands(minute), book.kitchen[6]}[what];
    }

    private int dinner(int dishes) {
        if (book == null || dishes < 1 || dishes >= 1 << book.dishes.size()) return BAD;
        List<Integer> set = Plain.listOf(dishes);
        if (set.size() > 4) return BAD;
        book.dinner = set;
        return set.size();
    }

    private int out(int minute) {
        if (!within(minute, 0, 60)) return BAD;
        if (book == null || book.kitchen[1] == 0) return STATE;
        book.out = minute;
        return 1;
    }

    private int judge(int sheet, int i, int t) {
        if (!within(sheet, 0, 7) || !within(t, 1, 60)) return BAD;
        if (book == null) return STATE;
        if (sheets[sheet] == null) return finding("NULL");
        int n = book.row().size();
        if (i < 0 || (long) i + n > sheets[sheet].length) return finding("PLACE");
        int[] begins = new int[n];
        for (int k = 0; k < n; k++) begins[k] = sheets[sheet][i + k];
        return fine(book.judged(begins, t));
    }

    private int image(int k) {
        if (!within(k, 0, 1)) return BAD;
        if (book == null) return STATE;
        images[k] = new Kept(text, book.dinner, book.out);
        return 1;
    }

    private int restore(int k) {
        if (!within(k, 0, 1)) return BAD;
        if (images[k] == null) return STATE;
        text = images[k].text;
        book = new Plain();
        book.read(text);
        book.dinner = images[k].dinner;
        book.out = images[k].out;
        return 1;
    }

    // ---- plans

    private int ofPlans(String name, int[] n) {
        if (name.equals("earliest")) return book == null ? STATE : look(name, 0, 0, 0);
        int t = name.equals("dinners") ? n[1] : n[0];
        boolean told = within(t, 1, 60) && switch (name) {
            case "least" -> n[1] >= -1;
            case "begins", "slack" -> n[1] >= 0;
            case "seven", "more" -> true;
            case "heat", "mend", "mind" -> within(n[1], 0, 59);
            case "wanted" -> within(n[1], 0, 59) && within(n[2], 0, 3);
            case "dinners" -> within(n[0], 1, 3) && within(n[2], 0, 1);
            case "bears" -> n[1] >= 0 && within(n[2], 1, 9);
            default -> throw new IllegalArgumentException(name);
        };
        if (!told) return BAD;
        if (book == null) return STATE;
        if (name.equals("mend") && (book.kitchen[1] == 0 || book.out < 60)) return STATE;
        return switch (name) {
            case "seven", "more" -> look(name, t, 0, 0);
            case "dinners" -> look(name, t, n[0], n[2]);
            case "mend" -> look(name, t, n[1], 0);
            default -> ofLeast(name, t, n[1], n[2]);
        };
    }

    private String key(int t) {
        return text + "|" + book.dinner + "|" + book.out + "|" + t;
    }

    private int look(String name, int t, int a, int b) {
        return OTHER.computeIfAbsent(key(t) + name + a + "," + b, k -> switch (name) {
            case "earliest" -> book.earliest();
            case "seven" -> book.seven(t) ? 1 : 0;
            case "more" -> book.more(t);
            case "mend" -> book.mend(t, a);
            default -> book.dinners(a, t)[b];
        });
    }

    private int ofLeast(String name, int t, int k, int w) {
        int[][] best = LEAST.computeIfAbsent(key(t), x ->
            book.least(t) ? new int[][] {{book.bestCost}, book.bestChoices, book.bestBegins} : new int[0][]);
        if (best.length == 0) return NONE;
        book.bestBegins = best[2];
        int steps = best[2].length;
        switch (name) {
            case "least": return k == -1 ? best[0][0] : k < best[1].length ? best[1][k] : NONE;
            case "begins": return k < steps ? best[2][k] : NONE;
            case "slack": return k < steps ? book.slack(t, k) : NONE;
            case "bears": return k < steps ? book.bears(t, k, w) : NONE;
            case "heat": return book.heats()[k];
            case "mind": return book.mind(k);
            default:
                book.judged(best[2], t);
                return book.wants[k][new int[] {5, 2, 3, 6}[w]];
        }
    }

    // ---- asked

    private int kind(Plain.Step s) {
        return switch (s.word) {
            case "ring" -> s.stir == 2 ? 6 : 1;
            case "oven" -> 2;
            case "hand" -> 3;
            case "rest" -> 4;
            default -> 5;
        };
    }

    private int as(int step, int kind) {
        Plain.Step s = find(step);
        if (s == null || !within(kind, 0, 6)) return BAD;
        for (int is : IS[kind(s)]) if (is == kind) return fine(step);
        return finding("KIND");
    }

    private int ask(int step, int what) {
        Plain.Step s = find(step);
        if (s == null || !within(what, 0, 1)) return BAD;
        trace.clear();
        return what == 0 ? size(s) : mark(s);
    }

    private int size(Plain.Step s) {
        return body(new int[] {10, 11, 13, 10, 10, 14, 12}[kind(s)], s);
    }

    private int mark(Plain.Step s) {
        return body(new int[] {20, 20, 20, 23, 21, 22, 24}[kind(s)], s);
    }

    private int body(int number, Plain.Step s) {
        trace.add(number);
        return switch (number) {
            case 10 -> s.length;
            case 11 -> body(10, s) + 10 * s.third;
            case 12 -> body(11, s) * 2;
            case 13 -> body(10, s) + s.high - s.third;
            case 14 -> body(10, s) - mark(s);
            case 20 -> s.number;
            case 21 -> body(20, s) + 50;
            case 22 -> body(21, s) + s.third;
            case 23 -> body(20, s) + size(s);
            default -> -body(20, s);
        };
    }

    private int count(int what) {
        switch (what) {
            case 0:
                int many = 0;
                for (int[] sheet : sheets) if (sheet != null) many++;
                return many;
            case 1: return book == null ? 0 : book.dishes.size();
            case 2: return book == null ? 0 : book.steps;
            case 3: return book == null ? 0 : book.dinner.size();
            case 4: return book == null ? 0 : book.row().size();
            case 5: return book == null ? 0 : book.aways.size();
            case 6: return tape.length();
            case 7: return book == null ? 60 : book.out;
            default: return BAD;
        }
    }
}
