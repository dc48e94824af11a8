import java.util.ArrayList;
import java.util.List;
import java.util.regex.Matcher;
import java.util.regex.Pattern;

/**
 * The document once more, as plainly and as slowly as it can be written, minute by minute and choice by
 * choice, to hold the program against. It shares no code and no idea with the program.
 */
final class Plain {
    static final int NONE = -1000000;

    static final class Step {
        String word;
        int number, length, wait, stir, third = NONE, high = NONE;
    }

    static final class Dish {
        int keep, cold, pan;
        List<Step> steps = new ArrayList<>();
    }

    /** One beginning after the other, for one dish, by one choice. */
    static final class Laid {
        int choice, early, cost;
        int[] begins;
    }

    int[] kitchen = new int[7];
    List<int[]> aways = new ArrayList<>();
    List<Dish> dishes = new ArrayList<>();
    int steps;
    List<Integer> dinner = new ArrayList<>();
    int out = 60;
    int fault, place;

    // ---- reading

    private List<String> tokens;
    private List<Integer> places;
    private int next;

    /** Whether a text is read; else fault and place tell why not. */
    boolean read(String text) {
        tokens = new ArrayList<>();
        places = new ArrayList<>();
        Matcher m = Pattern.compile("[a-z]+|[0-9]+|[^ \n]").matcher(text);
        while (m.find()) {
            tokens.add(m.group());
            places.add(m.start());
        }
        tokens.add("");
        places.add(text.length());
        next = 0;
        try {
            text();
            dinner.add(0);
            return true;
        } catch (IllegalStateException wrong) {
            fault = Integer.parseInt(wrong.getMessage());
            place = places.get(next);
            return false;
        }
    }

    private void fail(int number) {
        throw new IllegalStateException("" + number);
    }

    private void text() {
        take("kitchen");
        for (int i = 0; i < 7; i++) kitchen[i] = number(i == 5 ? 1 : 0, i == 3 || i == 4 || i == 6 ? 9 : 3);
        take(";");
        while (tokens.get(next).equals("away")) {
            if (aways.size() == 4) fail(3);
            take("away");
            int from = number(0, 59);
            aways.add(new int[] {from, number(from, 59)});
            take(";");
        }
        do {
            dish();
        } while (!tokens.get(next).isEmpty());
    }

    private void dish() {
        if (tokens.get(next).equals("dish") && dishes.size() == 8) fail(3);
        take("dish");
        Dish dish = new Dish();
        dish.keep = number(0, 2);
        dish.cold = number(0, 9);
        dish.pan = number(0, 1);
        take(";");
        while (List.of("ring", "oven", "hand", "rest", "keep").contains(tokens.get(next))) {
            if (dish.steps.size() == 3) fail(3);
            dish.steps.add(step());
        }
        if (dish.steps.isEmpty()) fail(1);
        dishes.add(dish);
    }

    private Step step() {
        Step step = new Step();
        step.number = steps++;
        step.word = tokens.get(next++);
        step.length = number(1, 30);
        step.wait = number(0, 1);
        switch (step.word) {
            case "ring" -> { step.stir = number(0, 2); step.third = number(0, 1); }
            case "oven" -> { step.stir = number(0, 2); step.third = number(0, 9); step.high = number(step.third, 9); }
            case "hand" -> step.stir = 2;
            case "keep" -> step.third = number(0, 9);
            default -> { }
        }
        take(";");
        return step;
    }

    private void take(String word) {
        if (!tokens.get(next).equals(word)) fail(1);
        next++;
    }

    private int number(int least, int most) {
        if (!tokens.get(next).matches("[0-9]{1,2}")) fail(1);
        int n = Integer.parseInt(tokens.get(next));
        if (n < least || n > most) fail(2);
        next++;
        return n;
    }

    // ---- the kitchen

    int rings(int minute) {
        return kitchen[0] + bigs(minute);
    }

    int bigs(int minute) {
        return minute >= out ? kitchen[1] - 1 : kitchen[1];
    }

    int hands(int minute) {
        int n = kitchen[5];
        for (int[] away : aways) if (minute >= away[0] && minute <= away[1]) n--;
        return n < 0 ? 0 : n;
    }

    // ---- beginnings, judged

    List<Step> row() {
        List<Step> row = new ArrayList<>();
        for (int d : dinner) row.addAll(dishes.get(d).steps);
        return row;
    }

    int judged(int[] begins, int t) {
        List<Step> row = row();
        for (int i = 0; i < row.size(); i++) {
            long end = (long) begins[i] + row.get(i).length;
            if (begins[i] < 0 || end > 60) return 1 + 10 * i;
        }
        int i = 0;
        for (int d : dinner) {
            List<Step> of = dishes.get(d).steps;
            for (int j = 1; j < of.size(); j++) {
                int end = begins[i + j - 1] + of.get(j - 1).length;
                if (begins[i + j] < end || begins[i + j] > end + of.get(j - 1).wait) return 2 + 10 * (i + j);
            }
            i += of.size();
        }
        i = 0;
        for (int d : dinner) {
            Dish dish = dishes.get(d);
            i += dish.steps.size();
            int done = begins[i - 1] + dish.steps.get(dish.steps.size() - 1).length;
            if (done > t || done < t - dish.keep) return 3 + 10 * (i - 1);
        }
        return lack(begins);
    }

    /** Heats that the oven may have, minute by minute, as sets. */
    private int lack(int[] begins) {
        boolean[] before = new boolean[10];
        before[0] = true;
        for (int minute = 0; minute < 60; minute++) {
            int[] n = new int[7];
            boolean[] heats = new boolean[10];
            for (int h = 0; h < 10; h++)
                for (int p = 0; p < 10; p++)
                    if (before[p] && h - p <= kitchen[3] && p - h <= kitchen[4]) heats[h] = true;
            int i = 0;
            for (int d : dinner) {
                Dish dish = dishes.get(d);
                int from = begins[i];
                int till = 0;
                for (Step step : dish.steps) {
                    int in = minute - begins[i];
                    till = begins[i] + step.length;
                    i++;
                    if (in < 0 || in >= step.length) continue;
                    if (step.word.equals("ring")) n[2]++;
                    if (step.word.equals("ring") && step.third == 1) n[1]++;
                    if (step.word.equals("oven")) {
                        n[3]++;
                        for (int h = 0; h < 10; h++) if (h < step.third || h > step.high) heats[h] = false;
                    }
                    if (step.stir == 2 || step.stir == 1 && in == 0) n[5]++;
                }
                if (dish.pan == 1 && minute >= from && minute < till) n[6]++;
            }
            wants[minute] = n;
            boolean some = false;
            for (boolean h : heats) some |= h;
            int word = n[1] > bigs(minute) ? 1 : n[2] > rings(minute) ? 2 : n[3] > kitchen[2] ? 3
                : !some ? 4 : n[5] > hands(minute) ? 5 : n[6] > kitchen[6] ? 6 : 0;
            if (word != 0) return 1000 + 10 * minute + word;
            before = heats;
        }
        return 0;
    }

    /** What was wanted in the minutes that the latest judging came to, by the numbers of the words. */
    final int[][] wants = new int[60][];

    // ---- plans

    List<Laid> choices(Dish dish, int t) {
        List<Laid> all = new ArrayList<>();
        int n = dish.steps.size();
        int firstWaits = n > 1 ? dish.steps.get(0).wait : 0;
        int secondWaits = n > 2 ? dish.steps.get(1).wait : 0;
        int many = (dish.keep + 1) * (firstWaits + 1) * (secondWaits + 1);
        for (int choice = 0; choice < many; choice++) {
            Laid laid = new Laid();
            laid.choice = choice;
            laid.early = choice % (dish.keep + 1);
            int[] waits = {choice / (dish.keep + 1) % (firstWaits + 1), choice / (dish.keep + 1) / (firstWaits + 1), 0};
            laid.cost = laid.early * dish.cold + waits[0] + waits[1];
            laid.begins = new int[n];
            int at = t - laid.early;
            for (int i = n - 1; i >= 0; i--) {
                at -= dish.steps.get(i).length + waits[i] * (i < n - 1 ? 1 : 0);
                laid.begins[i] = at;
            }
            for (Step step : dish.steps) if (step.word.equals("keep")) laid.cost += step.third * step.length;
            all.add(laid);
        }
        return all;
    }

    interface Sieve {
        boolean lets(int[] begins, List<Laid> laid);
    }

    int bestCost;
    int[] bestChoices, bestBegins;

    /** All choices for all dishes, one after the other: the first of the least cost. */
    boolean least(int t, Sieve sieve, boolean anyWillDo) {
        bestCost = NONE;
        List<List<Laid>> all = new ArrayList<>();
        for (int d : dinner) all.add(choices(dishes.get(d), t));
        int[] at = new int[dinner.size()];
        while (true) {
            List<Laid> laid = new ArrayList<>();
            int cost = 0;
            for (int i = 0; i < at.length; i++) {
                laid.add(all.get(i).get(at[i]));
                cost += laid.get(i).cost;
            }
            if (bestCost == NONE || cost < bestCost) {
                int[] begins = together(laid);
                if (sieve.lets(begins, laid) && judged(begins, t) == 0) {
                    bestCost = cost;
                    bestBegins = begins;
                    bestChoices = at.clone();
                    if (anyWillDo) return true;
                }
            }
            int i = at.length - 1;
            while (i >= 0 && at[i] == all.get(i).size() - 1) at[i--] = 0;
            if (i < 0) return bestCost != NONE;
            at[i]++;
        }
    }

    private static int[] together(List<Laid> laid) {
        int n = 0;
        for (Laid one : laid) n += one.begins.length;
        int[] begins = new int[n];
        n = 0;
        for (Laid one : laid) for (int b : one.begins) begins[n++] = b;
        return begins;
    }

    boolean least(int t) {
        return least(t, (begins, laid) -> true, false);
    }

    boolean any(int t) {
        return least(t, (begins, laid) -> true, true);
    }

    boolean seven(int t) {
        return least(t, (begins, laid) -> laid.stream().allMatch(one -> one.early == 0), true);
    }

    int earliest() {
        for (int t = 1; t <= 60; t++) if (any(t)) return t;
        return NONE;
    }

    /** Behind least: the lowest row of heats, found by trying heats from 0 on and looking whether it goes on. */
    int[] heats() {
        int[][] low = new int[60][2];
        for (int m = 0; m < 60; m++) low[m] = new int[] {0, 9};
        List<Step> row = row();
        for (int i = 0; i < row.size(); i++) {
            if (!row.get(i).word.equals("oven")) continue;
            for (int m = bestBegins[i]; m < bestBegins[i] + row.get(i).length; m++) {
                low[m][0] = Math.max(low[m][0], row.get(i).third);
                low[m][1] = Math.min(low[m][1], row.get(i).high);
            }
        }
        boolean[][] good = new boolean[61][10];
        for (int h = 0; h < 10; h++) good[60][h] = true;
        for (int m = 59; m >= 0; m--)
            for (int h = low[m][0]; h <= low[m][1]; h++)
                for (int after = 0; after < 10; after++)
                    if (good[m + 1][after] && after - h <= kitchen[3] && h - after <= kitchen[4]) good[m][h] = true;
        int[] heats = new int[60];
        int before = 0;
        for (int m = 0; m < 60; m++) {
            int h = 0;
            while (!(good[m][h] && h - before <= kitchen[3] && before - h <= kitchen[4])) h++;
            heats[m] = h;
            before = h;
        }
        return heats;
    }

    int[] dinners(int h, int t) {
        List<Integer> kept = dinner;
        int hands = kitchen[5];
        kitchen[5] = h;
        int many = 0, greatest = NONE, most = 0;
        for (int set = 1; set < 1 << dishes.size(); set++) {
            if (Integer.bitCount(set) > 4) continue;
            dinner = listOf(set);
            if (!any(t)) continue;
            many++;
            if (dinner.size() > most) {
                most = dinner.size();
                greatest = set;
            }
        }
        dinner = kept;
        kitchen[5] = hands;
        return new int[] {many, greatest};
    }

    static List<Integer> listOf(int set) {
        List<Integer> list = new ArrayList<>();
        for (int d = 0; d < 8; d++) if ((set >> d & 1) != 0) list.add(d);
        return list;
    }

    int more(int t) {
        List<Integer> kept = dinner;
        int more = 0;
        for (int d = 0; d < dishes.size(); d++) {
            if (kept.contains(d) || kept.size() == 4) continue;
            dinner = new ArrayList<>(kept);
            dinner.add(d);
            dinner.sort(null);
            if (any(t)) more |= 1 << d;
        }
        dinner = kept;
        return more;
    }

    int mend(int t, int minute) {
        if (!least(t)) return NONE;
        int[] before = bestBegins;
        out = minute;
        boolean found = least(t, (begins, laid) -> {
            for (int i = 0; i < begins.length; i++) {
                if (before[i] < minute && begins[i] != before[i]) return false;
                if (before[i] >= minute && begins[i] < minute) return false;
            }
            return true;
        }, false);
        out = 60;
        return found ? bestCost : NONE;
    }

    int slack(int t, int k) {
        int[] begins = bestBegins.clone();
        int s = 0;
        while (true) {
            begins[k]++;
            if (judged(begins, t) != 0) return s;
            s++;
        }
    }

    int bears(int t, int k, int n) {
        Step step = row().get(k);
        step.length += n;
        int judged = judged(bestBegins, t);
        step.length -= n;
        return judged == 0 ? 1 : 0;
    }

    int mind(int minute) {
        for (int m = minute; m < 60; m++)
            for (int k = 0; k < bestBegins.length; k++)
                if (bestBegins[k] == m) return k;
        return NONE;
    }
}
