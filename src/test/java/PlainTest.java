import java.util.Random;

/** Random books and dinners, held against the plain reading of the document (promises 7 to 26, 33). */
public final class PlainTest {
    private static final Due DUE = new Due("PlainTest");
    private static int plans = 0;
    private static int none = 0;

    public static void main(String[] args) {
        int rounds = args.length > 0 ? Integer.parseInt(args[0]) : 700;
        long seed = args.length > 1 ? Long.parseLong(args[1]) : 7;
        for (int i = 0; i < rounds && !DUE.failed(); i++) round(new Random(seed * 1000003 + i), "book " + i + ": ");
        System.out.println(plans + " plans, " + none + " without");
        DUE.is("plans enough", plans > rounds / 4 ? 1 : 0, 1);
        DUE.is("without enough", none > rounds / 20 ? 1 : 0, 1);
        DUE.end();
    }

    static String book(Random r) {
        int longest = new int[] {3, 6, 10, 30}[r.nextInt(4)];
        int tight = r.nextInt(3);
        StringBuilder s = new StringBuilder("kitchen");
        for (int i = 0; i < 3; i++) s.append(' ').append(tight == 0 ? r.nextInt(4) : tight == 1 ? 1 + r.nextInt(2) : 2 + r.nextInt(2));
        s.append(' ').append(r.nextInt(10)).append(' ').append(r.nextInt(10));
        s.append(' ').append(1 + r.nextInt(3)).append(' ').append(r.nextInt(tight == 0 ? 10 : 5)).append(';');
        for (int i = r.nextInt(4) == 0 ? r.nextInt(5) : r.nextInt(2); i > 0; i--) {
            int from = r.nextInt(60);
            s.append("away ").append(from).append(' ').append(Math.min(59, from + r.nextInt(8))).append(";");
        }
        int dishes = 1 + r.nextInt(5) + r.nextInt(2);
        int oven = r.nextInt(3);
        for (int d = 0; d < dishes; d++) {
            s.append("dish ").append(r.nextInt(3)).append(' ').append(r.nextInt(10)).append(' ').append(r.nextInt(2)).append(';');
            for (int i = r.nextInt(3); i >= 0; i--) step(r, s, 1 + r.nextInt(longest), oven);
        }
        return s.toString();
    }

    private static void step(Random r, StringBuilder s, int length, int oven) {
        int word = r.nextInt(5 + oven * 3);
        String head = length + " " + r.nextInt(2);
        if (word == 0) s.append("ring ").append(head).append(' ').append(r.nextInt(3)).append(' ').append(r.nextInt(2));
        else if (word == 1) s.append("hand ").append(head);
        else if (word == 2) s.append("rest ").append(head);
        else if (word == 3) s.append("keep ").append(head).append(' ').append(r.nextInt(10));
        else {
            int low = r.nextInt(10);
            int high = low + r.nextInt(10 - low);
            s.append("oven ").append(head).append(' ').append(r.nextInt(3)).append(' ').append(low).append(' ').append(high);
        }
        s.append(";");
    }

    private static void round(Random r, String at) {
        String text = book(r);
        HotAtSeven x = new HotAtSeven();
        Plain p = new Plain();
        if (!p.read(text)) throw new IllegalStateException(text);
        DUE.is(at + "book()", Due.read(x, text), p.dishes.size());
        told(x, p, at);
        for (int i = 0; i < 3; i++) {
            int set = 1 + r.nextInt((1 << p.dishes.size()) - 1);
            if (Integer.bitCount(set) > 4) set &= -set;
            p.dinner = Plain.listOf(set);
            DUE.is(at + "dinner", x.dinner(set), p.dinner.size());
            if (p.kitchen[1] > 0 && r.nextInt(3) == 0) {
                p.out = r.nextInt(61);
                DUE.is(at + "out", x.out(p.out), 1);
            }
            given(x, p, r.nextInt(60), at);
            int first = r.nextInt(3) == 0 ? 60 : 1 + r.nextInt(60);
            plan(x, p, r, first, at + "set " + set + " by " + first + ": ");
            int earliest = p.earliest();
            DUE.is(at + "earliest", x.earliest(), earliest);
            if (earliest > 0) plan(x, p, r, earliest, at + "set " + set + " by " + earliest + ": ");
            if (earliest > 0 && earliest < 60) plan(x, p, r, earliest + 1, at + "set " + set + " by " + (earliest + 1) + ": ");
        }
        if (r.nextInt(4) == 0) dinners(x, p, r, at);
        p.out = 60;
        DUE.is(at + "count(6)", x.count(6), 0);
        if (DUE.failed()) System.out.println(text);
    }

    private static void told(HotAtSeven x, Plain p, String at) {
        DUE.is(at + "count(1)", x.count(1), p.dishes.size());
        DUE.is(at + "count(2)", x.count(2), p.steps);
        DUE.is(at + "count(5)", x.count(5), p.aways.size());
        int first = 0;
        for (int d = 0; d < p.dishes.size(); d++) {
            Plain.Dish dish = p.dishes.get(d);
            int[] want = {dish.keep, dish.cold, dish.pan, dish.steps.size(), first, p.choices(dish, 60).size()};
            for (int w = 0; w < 6; w++) DUE.is(at + "dish " + d + " " + w, x.dish(d, w), want[w]);
            for (Plain.Step step : dish.steps) {
                int[] of = {step.length, step.wait, step.stir, step.third, step.high};
                for (int w = 0; w < 5; w++) DUE.is(at + "step " + w, x.step(step.number, w), of[w]);
            }
            first += dish.steps.size();
        }
    }

    private static void given(HotAtSeven x, Plain p, int minute, String at) {
        int[] want = {p.rings(minute), p.bigs(minute), p.kitchen[2], p.hands(minute), p.kitchen[6]};
        for (int w = 0; w < 5; w++) DUE.is(at + "gives " + minute + " " + w, x.gives(minute, w), want[w]);
        DUE.is(at + "count(3)", x.count(3), p.dinner.size());
        DUE.is(at + "count(4)", x.count(4), p.row().size());
        DUE.is(at + "count(7)", x.count(7), p.out);
    }

    private static void plan(HotAtSeven x, Plain p, Random r, int t, String at) {
        DUE.is(at + "seven", x.seven(t), p.seven(t) ? 1 : 0);
        DUE.is(at + "more", x.more(t), p.more(t));
        boolean found = p.least(t);
        DUE.is(at + "least", x.least(t, -1), p.bestCost);
        int n = p.row().size();
        if (!found) {
            none++;
            DUE.is(at + "least 0", x.least(t, 0), Plain.NONE);
            DUE.is(at + "begins 0", x.begins(t, 0), Plain.NONE);
            DUE.is(at + "heat", x.heat(t, 0), Plain.NONE);
            DUE.is(at + "wanted", x.wanted(t, 0, 0), Plain.NONE);
            DUE.is(at + "slack", x.slack(t, 0), Plain.NONE);
            DUE.is(at + "bears", x.bears(t, 0, 1), Plain.NONE);
            DUE.is(at + "mind", x.mind(t, 0), Plain.NONE);
            if (p.out == 60 && p.kitchen[1] > 0) DUE.is(at + "mend", x.mend(t, r.nextInt(60)), Plain.NONE);
            judge(x, p, r, t, at, new int[n]);
            return;
        }
        plans++;
        for (int k = 0; k < p.dinner.size(); k++) DUE.is(at + "least " + k, x.least(t, k), p.bestChoices[k]);
        for (int k = 0; k < n; k++) {
            DUE.is(at + "begins " + k, x.begins(t, k), p.bestBegins[k]);
            DUE.is(at + "slack " + k, x.slack(t, k), p.slack(t, k));
            int by = 1 + r.nextInt(2);
            DUE.is(at + "bears " + k + " " + by, x.bears(t, k, by), p.bears(t, k, by));
        }
        p.judged(p.bestBegins, t);
        int minute = r.nextInt(t);
        int[] wants = p.wants[minute];
        int[] want = {wants[5], wants[2], wants[3], wants[6]};
        for (int w = 0; w < 4; w++) DUE.is(at + "wanted " + minute + " " + w, x.wanted(t, minute, w), want[w]);
        DUE.is(at + "mind " + minute, x.mind(t, minute), p.mind(minute));
        int[] heats = p.heats();
        for (int m = r.nextInt(4); m < 60; m += 4) DUE.is(at + "heat " + m, x.heat(t, m), heats[m]);
        int[] begins = p.bestBegins.clone();
        judge(x, p, r, t, at, begins);
        if (p.out == 60 && p.kitchen[1] > 0) {
            int m = r.nextInt(Math.min(60, t + 1));
            DUE.is(at + "mend " + m, x.mend(t, m), p.mend(t, m));
        }
    }

    /** The plan itself, then beginnings moved more and more. */
    private static void judge(HotAtSeven x, Plain p, Random r, int t, String at, int[] begins) {
        x.sheet(3, 1, begins.length + 2);
        for (int tries = 0; tries < 6; tries++) {
            for (int i = 0; i < begins.length; i++) x.set(3, i + 1, begins[i]);
            DUE.is(at + "judge", x.judge(3, 1, t), p.judged(begins, t));
            int shift = r.nextInt(5) - 2;
            if (r.nextBoolean()) begins[r.nextInt(begins.length)] += shift;
            else for (int i = 0; i < begins.length; i++) begins[i] += shift;
        }
        // Beginnings that are in order, whatever the kitchen has: so that lacks are told, not disorder.
        for (int tries = 0; tries < 4; tries++) {
            int i = 0;
            for (int d : p.dinner) {
                var all = p.choices(p.dishes.get(d), t);
                for (int b : all.get(r.nextInt(all.size())).begins) begins[i++] = b;
            }
            for (i = 0; i < begins.length; i++) x.set(3, i + 1, begins[i]);
            DUE.is(at + "judge in order", x.judge(3, 1, t), p.judged(begins, t));
        }
    }

    private static void dinners(HotAtSeven x, Plain p, Random r, String at) {
        int h = 1 + r.nextInt(3);
        int t = 1 + r.nextInt(60);
        int[] want = p.dinners(h, t);
        DUE.is(at + "dinners " + h + " " + t + " 0", x.dinners(h, t, 0), want[0]);
        DUE.is(at + "dinners " + h + " " + t + " 1", x.dinners(h, t, 1), want[1]);
    }
}
