import java.util.Arrays;

/** Promises 14 to 20 at their boundaries, sentence by sentence: JUDGED, LEAST, SEVEN, EARLIEST, HEATS, what is wanted. */
public final class EdgesPlansTest {
    private static final Due DUE = new Due("EdgesPlansTest");
    private static final int NONE = HotAtSeven.NONE, BAD = HotAtSeven.BAD, NULL = -1000011, PLACE = -1000012;
    private static final int LEAST = Integer.MIN_VALUE, MOST = Integer.MAX_VALUE;
    private static final int[] NO_TIMES = {0, 61, -1, LEAST, MOST};
    private static final int[] NO_MINUTES = {-1, 60, LEAST, MOST};
    /** Four dishes of three steps each, a minute each; they want nothing. */
    private static final String TWELVE = "kitchen 0 0 0 0 0 1 0;" + "dish 0 0 0;rest 1 0;rest 1 0;rest 1 0;".repeat(4);

    public static void main(String[] args) {
        judgedBeginning();
        judgedEnd();
        judgedFarOff();
        judgedPlaces();
        judgedFollowing();
        judgedFollowingInOneDish();
        judgedDone();
        judgedOrder();
        judgedWordsInOneMinute();
        judgedFirstMinute();
        judgedMinutes();
        judgedHeatUpToIt();
        judgeItems();
        judgeRefused();
        leastNumbers();
        leastCostOnly();
        leastFirstOfSeveral();
        leastByDishes();
        leastWhateverWasAsked();
        leastOfTheFullestBook();
        beginsNumbers();
        sevenTimes();
        sevenAndLeast();
        earliestEnds();
        earliestIsTheLeast();
        earliestWhateverWasAsked();
        heatNumbers();
        heatsLowest();
        heatsOfTheLastMinute();
        heatsBetween();
        heatsOfNoOven();
        wantedNumbers();
        wantedOfAll();
        wantedMinutes();
        DUE.end();
    }

    // ---- judged

    private static void judgedBeginning() {
        DUE.of("a STEP begins ahead of MINUTE 0 or ends behind MINUTE 59 (1 and 10 times the place of the first such in the row)");
        HotAtSeven x = DUE.with("kitchen 0 0 0 0 0 1 0;dish 0 0 0;rest 5 0;");
        DUE.judged(x, 5, 0, 0);
        DUE.judged(x, 5, 1, -1);
        DUE.judged(x, 5, 3, 1);
    }

    private static void judgedEnd() {
        DUE.of("or ends behind MINUTE 59");
        for (int length : new int[] {1, 2, 29, 30}) {
            HotAtSeven x = DUE.with("kitchen 0 0 0 0 0 1 0;dish 0 0 0;rest " + length + " 0;");
            DUE.judged(x, 60, 0, 60 - length);
            DUE.judged(x, 60, 1, 61 - length);
            DUE.judged(x, 60, 3, 59 - length);
            DUE.judged(x, 60, 1, 59 + (length == 1 ? 1 : 0));
        }
    }

    private static void judgedFarOff() {
        DUE.of("a STEP begins ahead of MINUTE 0 or ends behind MINUTE 59");
        HotAtSeven x = DUE.with("kitchen 0 0 0 0 0 1 0;dish 2 0 0;rest 30 1;rest 1 0;");
        for (int far : new int[] {LEAST, LEAST + 1, -60, 60, MOST - 30, MOST - 29, MOST - 1, MOST}) {
            DUE.judged(x, 60, 1, far, 59);
            DUE.judged(x, 60, 11, 29, far);
        }
        DUE.judged(x, 60, 0, 29, 59);
    }

    private static void judgedPlaces() {
        DUE.of("(1 and 10 times the place of the first such in the row)");
        HotAtSeven x = DUE.with(TWELVE);
        x.dinner(15);
        int[] plan = {57, 58, 59, 57, 58, 59, 57, 58, 59, 57, 58, 59};
        DUE.judged(x, 60, 0, plan);
        for (int k = 0; k < 12; k++) {
            int[] begins = plan.clone();
            Arrays.fill(begins, k, 12, -1);
            DUE.judged(x, 60, 1 + 10 * k, begins);
            begins = plan.clone();
            begins[k] = 60;
            DUE.judged(x, 60, 1 + 10 * k, begins);
            // One minute too early: ahead of the end of the one before, or, a first one, too long ahead of the next.
            begins = plan.clone();
            begins[k]--;
            DUE.judged(x, 60, 2 + 10 * (k % 3 == 0 ? k + 1 : k), begins);
        }
        for (int d = 0; d < 4; d++) {
            int[] begins = plan.clone();
            for (int k = 3 * d; k < 3 * d + 3; k++) begins[k]--;
            DUE.judged(x, 60, 3 + 10 * (3 * d + 2), begins);
        }
    }

    private static void judgedFollowing() {
        DUE.of("a STEP begins ahead of the end of the one before of its DISH, or more than its WAIT behind (2, likewise)");
        for (int wait = 0; wait <= 1; wait++) {
            // The wait of the last step is the other one, so that neither stands for the other.
            HotAtSeven x = DUE.with("kitchen 0 0 0 0 0 1 0;dish 0 0 0;rest 5 " + wait + ";rest 2 " + (1 - wait) + ";");
            for (int begin = 13; begin <= 18; begin++) DUE.judged(x, begin + 2, begin >= 15 && begin <= 15 + wait ? 0 : 12, 10, begin);
            HotAtSeven y = DUE.with("kitchen 0 0 0 0 0 1 0;dish 0 0 0;rest 5 " + (1 - wait) + ";rest 2 " + wait + ";rest 2 " + (1 - wait) + ";");
            for (int begin = 15; begin <= 20; begin++) DUE.judged(y, begin + 2, begin >= 17 && begin <= 17 + wait ? 0 : 22, 10, 15, begin);
        }
    }

    private static void judgedFollowingInOneDish() {
        DUE.of("the one before of its DISH");
        HotAtSeven x = DUE.with("kitchen 0 0 0 0 0 1 0;dish 0 0 0;rest 1 0;dish 0 0 0;rest 9 0;dish 0 0 0;rest 5 0;");
        x.dinner(7);
        DUE.judged(x, 20, 0, 19, 11, 15);
    }

    private static void judgedDone() {
        DUE.of("a DISH is not done at T, or within KEEP ahead of it (3, the place of its last STEP)");
        for (int keep = 0; keep <= 2; keep++) {
            HotAtSeven x = DUE.with("kitchen 0 0 0 0 0 1 0;dish " + keep + " 0 0;rest 2 0;rest 3 0;");
            // Done at 25.
            for (int t = 23; t <= 29; t++) DUE.judged(x, t, t >= 25 && t <= 25 + keep ? 0 : 13, 20, 22);
            DUE.judged(x, 60, 0, 55, 57);
            DUE.judged(x, 60, keep >= 2 ? 0 : 13, 53, 55);
            DUE.judged(x, 60, 13, 52, 54);
            DUE.judged(x, 5, 0, 0, 2);
            DUE.judged(x, 4, 13, 0, 2);
        }
    }

    private static void judgedOrder() {
        DUE.of("the first of these that is so");
        // Dish 0: two rests; dish 1: a hand that is away at 10; dish 2: a rest.
        HotAtSeven x = DUE.with("kitchen 0 0 0 0 0 1 0;away 10 10;dish 0 0 0;rest 5 0;rest 2 0;dish 0 0 0;hand 2 0;dish 0 0 0;rest 3 0;");
        x.dinner(7);
        DUE.judged(x, 12, 1105, 5, 10, 10, 9);
        DUE.judged(x, 12, 33, 5, 10, 10, 8);
        DUE.judged(x, 12, 23, 5, 10, 9, 8);
        DUE.judged(x, 12, 12, 4, 10, 9, 8);
        DUE.judged(x, 12, 31, 4, 10, 9, -1);
        DUE.judged(x, 12, 21, 4, 10, 59, -1);
        DUE.judged(x, 13, 0, 6, 11, 11, 10);
    }

    private static void judgedWordsInOneMinute() {
        DUE.of("and the first word: 1 a BIG RING, 2 a RING, 3 a SHELF, 4 a HEAT (by the HEATS up to it), 5 a HAND, 6 a PAN; 0: it is a PLAN.");
        String[] dishes = {"dish 0 0 0;ring 2 0 0 1;", "dish 0 0 0;ring 2 0 0 0;", "dish 0 0 0;oven 2 0 0 0 0;", "dish 0 0 0;hand 2 0;", "dish 0 0 1;rest 2 0;"};
        int[] words = {1, 2, 3, 5, 6};
        HotAtSeven x = DUE.with("kitchen 0 0 0 9 9 1 0;away 10 10;" + String.join("", dishes));
        for (int set = 1; set < 32; set++) {
            if (Integer.bitCount(set) > 4) continue;
            x.dinner(set);
            int[] begins = new int[Integer.bitCount(set)];
            Arrays.fill(begins, 10);
            DUE.judged(x, 12, 1100 + words[Integer.numberOfTrailingZeros(set)], begins);
        }
        // A heat behind a shelf, ahead of a hand and of a pan.
        String hot = "dish 0 0 1;oven 2 0 2 1 9;";
        DUE.judged(DUE.with("kitchen 0 0 0 0 9 1 0;away 10 10;" + hot), 12, 1103, 10);
        DUE.judged(DUE.with("kitchen 0 0 1 0 9 1 0;away 10 10;" + hot), 12, 1104, 10);
        DUE.judged(DUE.with("kitchen 0 0 1 1 9 1 0;away 10 10;" + hot), 12, 1105, 10);
        DUE.judged(DUE.with("kitchen 0 0 1 1 9 1 0;away 9 9;" + hot), 12, 1106, 10);
        DUE.judged(DUE.with("kitchen 0 0 1 1 9 1 1;away 9 9;" + hot), 12, 0, 10);
    }

    private static void judgedFirstMinute() {
        DUE.of("then the first MINUTE in which something lacks: 1000 and 10 times the MINUTE");
        // A pan lacks from 10 on; a ring from 9, 10 or 11 on.
        int[][] due = {{9, 1091}, {10, 1101}, {11, 1106}};
        for (int[] d : due) {
            HotAtSeven x = DUE.with("kitchen 0 0 0 0 0 1 0;dish 0 0 1;rest 10 0;dish 0 0 0;ring 1 0 0 1;rest " + (19 - d[0]) + " 0;");
            x.dinner(3);
            DUE.judged(x, 20, d[1], 10, d[0], d[0] + 1);
        }
    }

    private static void judgedMinutes() {
        DUE.of("1000 and 10 times the MINUTE, and the first word");
        String[] dishes = {"ring 1 0 0 1;", "ring 1 0 0 0;", "oven 1 0 0 0 0;", "hand 1 0;"};
        int[] words = {1, 2, 3, 5};
        for (int i = 0; i < dishes.length; i++) {
            HotAtSeven x = DUE.with("kitchen 0 0 0 0 0 1 0;away 0 59;dish 0 0 0;" + dishes[i]);
            DUE.judged(x, 1, 1000 + words[i], 0);
            DUE.judged(x, 60, 1590 + words[i], 59);
        }
        HotAtSeven heat = DUE.with("kitchen 0 0 1 0 0 1 0;dish 0 0 0;oven 1 0 0 1 1;");
        DUE.judged(heat, 1, 1004, 0);
        DUE.judged(heat, 60, 1594, 59);
        HotAtSeven pan = DUE.with("kitchen 0 0 0 0 0 1 0;dish 0 0 1;rest 1 0;");
        DUE.judged(pan, 1, 1006, 0);
        DUE.judged(pan, 60, 1596, 59);
    }

    private static void judgedHeatUpToIt() {
        DUE.of("4 a HEAT (by the HEATS up to it)");
        // 9 at 10, then 0: it lacks where it cannot be 0, not where it had to begin to cool.
        HotAtSeven x = DUE.with("kitchen 0 0 1 9 3 1 0;dish 0 0 0;oven 1 1 0 9 9;rest 1 1;oven 1 0 0 0 0;");
        DUE.judged(x, 13, 1124, 10, 11, 12);
        DUE.judged(x, 14, 0, 10, 11, 13);
        DUE.judged(x, 14, 0, 10, 12, 13);
        // Within a step's own minutes: 0 to 4 at 10, at 11 both, 6 at least at 12, by 2 a minute.
        HotAtSeven y = DUE.with("kitchen 0 0 2 2 9 1 0;dish 0 0 0;oven 1 0 0 0 1;rest 1 0;oven 2 0 0 6 9;dish 0 0 0;oven 1 0 0 0 9;");
        DUE.judged(y, 14, 1124, 10, 11, 12);
        HotAtSeven z = DUE.with("kitchen 0 0 2 2 9 1 0;dish 0 0 0;oven 1 0 0 0 2;rest 1 0;oven 2 0 0 6 9;dish 0 0 0;oven 1 0 0 0 9;");
        DUE.judged(z, 14, 0, 10, 11, 12);
    }

    private static void judgeItems() {
        DUE.of("JUDGED, as many ITEMS of a SHEET from i on as the DINNER has STEPS, by T.");
        HotAtSeven x = DUE.with(TWELVE);
        x.dinner(15);
        x.sheet(0, 0, 40);
        for (int i = 28; i < 40; i++) x.set(0, i, 57 + (i - 28) % 3);
        DUE.is("the last 12 of 40", x.judge(0, 28, 60), 0);
        DUE.is("from 29 on", x.judge(0, 29, 60), PLACE);
        DUE.is("from 27 on", x.judge(0, 27, 60), 12);
        DUE.is("from 0 on", x.judge(0, 0, 60), 12);
        DUE.is("from -1 on", x.judge(0, -1, 60), PLACE);
        for (int i : new int[] {40, 41, LEAST, MOST, MOST - 11}) DUE.is("from " + i + " on", x.judge(0, i, 60), PLACE);
        x.sheet(0, 0, 12);
        DUE.is("12 of 12", x.judge(0, 0, 60), 12);
        x.sheet(0, 0, 11);
        DUE.is("12 of 11", x.judge(0, 0, 60), PLACE);
        x.dinner(7);
        DUE.is("9 of 11", x.judge(0, 2, 60), 12);
        DUE.is("9 of 11 from 3 on", x.judge(0, 3, 60), PLACE);
        x.sheet(0, 0, 0);
        DUE.is("of none", x.judge(0, 0, 60), PLACE);
    }

    private static void judgeRefused() {
        DUE.of("BAD: SHEET, T; STATE: no BOOK; NULL; PLACE.");
        HotAtSeven x = new HotAtSeven();
        x.sheet(0, 0, 1);
        for (int t : NO_TIMES) DUE.is("no book, by " + t, x.judge(0, 0, t), BAD);
        DUE.is("no book, no such sheet", x.judge(8, 0, 1), BAD);
        DUE.is("no book", x.judge(0, 0, 1), HotAtSeven.STATE);
        DUE.is("no book, a missing sheet", x.judge(1, 0, 1), HotAtSeven.STATE);
        DUE.is("no book, no such place", x.judge(0, 1, 1), HotAtSeven.STATE);
        Due.read(x, Due.RESTING);
        for (int t : NO_TIMES) DUE.is("by " + t, x.judge(0, 0, t), BAD);
        for (int t : NO_TIMES) DUE.is("missing, by " + t, x.judge(1, 5, t), BAD);
        DUE.is("by 1", x.judge(0, 0, 1), 0);
        DUE.is("by 60", x.judge(0, 0, 60), 3);
        DUE.is("missing, no such place", x.judge(1, -1, 60), NULL);
    }

    // ---- the least

    private static void leastNumbers() {
        DUE.of("the CHOICE of the k-th DISH of the DINNER; NONE: not so many, no PLAN. BAD: T, k below -1; STATE: no BOOK.");
        HotAtSeven x = DUE.with(TWELVE);
        for (int n = 1; n <= 4; n++) {
            x.dinner((1 << n) - 1);
            DUE.is("its cost", x.least(60, -1), 0);
            DUE.is("the first of " + n, x.least(60, 0), 0);
            DUE.is("the last of " + n, x.least(60, n - 1), 0);
            DUE.is("one more than " + n, x.least(60, n), NONE);
            DUE.is("far more", x.least(60, MOST), NONE);
            for (int k : new int[] {-2, LEAST}) DUE.is("k " + k, x.least(60, k), BAD);
        }
        for (int t : NO_TIMES) DUE.is("by " + t, x.least(t, 0), BAD);
        for (int k = -1; k <= 4; k++) DUE.is("no plan, " + k, x.least(2, k), NONE);
        DUE.is("a plan", x.least(3, -1), 0);
        HotAtSeven y = new HotAtSeven();
        DUE.is("no book", y.least(1, -1), HotAtSeven.STATE);
        DUE.is("no book, far more", y.least(60, MOST), HotAtSeven.STATE);
        for (int t : NO_TIMES) DUE.is("no book, by " + t, y.least(t, 0), BAD);
        DUE.is("no book, k -2", y.least(1, -2), BAD);
    }

    private static void leastCostOnly() {
        DUE.of("the PLAN of the least COST");
        // One hand for two dishes at 19: one of them is done a minute earlier, the one that is less cold by it.
        for (int cold = 0; cold <= 9; cold++) {
            HotAtSeven x = DUE.with("kitchen 0 0 0 0 0 1 0;dish 2 " + cold + " 0;hand 1 0;dish 2 5 0;hand 1 0;");
            x.dinner(3);
            if (cold < 5) DUE.least(x, 20, cold, 1, 0);
            else DUE.least(x, 20, 5, 0, 1);
        }
    }

    private static void leastFirstOfSeveral() {
        DUE.of("of several the first by CHOICES (of the DISHES by numbers)");
        // A wait, or being early for a COLD of 1: the choice of being early has the lesser number.
        HotAtSeven x = DUE.with("kitchen 0 0 0 0 0 1 0;away 17 17;dish 1 1 0;hand 1 1;rest 2 0;");
        DUE.least(x, 20, 1, 1);
        HotAtSeven y = DUE.with("kitchen 0 0 0 0 0 1 0;away 17 17;dish 1 2 0;hand 1 1;rest 2 0;");
        DUE.least(y, 20, 1, 2);
        // Two waits of which one is needed: the first has the lesser number.
        HotAtSeven z = DUE.with("kitchen 0 0 0 0 0 1 0;away 17 17;dish 0 9 0;hand 1 1;rest 1 1;rest 1 0;");
        DUE.least(z, 20, 1, 1);
        DUE.begins(z, 20, 16, 18, 19);
        // For no COST at all, EARLY 0.
        HotAtSeven w = DUE.with("kitchen 0 0 0 0 0 1 0;dish 2 0 0;rest 1 0;");
        DUE.least(w, 20, 0, 0);
    }

    private static void leastByDishes() {
        DUE.of("LEAST by T: the PLAN of the least COST, of several the first by CHOICES (of the DISHES by numbers); NONE: there is none.");
        String dish = "dish 2 1 0;hand 1 0;";
        HotAtSeven x = DUE.with("kitchen 0 0 0 0 0 1 0;" + dish.repeat(4));
        x.dinner(0b0111);
        DUE.least(x, 20, 3, 0, 1, 2);
        x.dinner(0b1110);
        DUE.least(x, 20, 3, 0, 1, 2);
        x.dinner(0b1111);
        DUE.least(x, 20, NONE);
        HotAtSeven y = DUE.with("kitchen 0 0 0 0 0 2 0;" + dish.repeat(4));
        y.dinner(0b1111);
        DUE.least(y, 20, 2, 0, 0, 1, 1);
        DUE.least(y, 2, 2, 0, 0, 1, 1);
        DUE.least(y, 1, NONE);
    }

    /** By other times and of other dinners ahead of it; dish 0 is done a minute early for 9, or by a wait for 1. */
    private static void leastWhateverWasAsked() {
        DUE.of("LEAST by T: the PLAN of the least COST");
        HotAtSeven x = DUE.with("kitchen 0 0 0 0 0 1 0;away 38 38;dish 1 9 0;hand 1 1;rest 1 0;dish 0 0 0;keep 30 0 9;dish 2 0 0;keep 20 0 1;");
        for (int round = 0; round < 4; round++) {
            x.dinner(0b001);
            DUE.least(x, 40, 1, 2);
            DUE.least(x, 30, 0, 0);
            x.dinner(0b011);
            DUE.least(x, 40, 271, 2, 0);
            DUE.least(x, 41, 270, 0, 0);
            DUE.least(x, 40, 271, 2, 0);
            DUE.least(x, 29, NONE);
            x.dinner(0b111);
            DUE.least(x, 40, 291, 2, 0, 0);
            DUE.is("seven", x.seven(40), 1);
            DUE.is("dinners", x.dinners(1, 40, 0), 7);
            DUE.least(x, 40, 291, 2, 0, 0);
            x.dinner(0b100);
            DUE.least(x, 40, 20, 0);
        }
    }

    /**
     * Eight dishes of twelve choices, and one ring in a minute. A ring is on so many minutes ahead of 17 as the dish is
     * early and waits in all, 0 to 4, each for a cost of 1; so four dishes cost 0, 1, 2 and 3.
     */
    private static void leastOfTheFullestBook() {
        DUE.of("LEAST by T: the PLAN of the least COST, of several the first by CHOICES (of the DISHES by numbers)");
        HotAtSeven x = DUE.with("kitchen 0 1 0 0 0 1 0;" + "dish 2 1 0;ring 1 1 0 1;rest 1 1;rest 1 0;".repeat(8));
        for (int d = 0; d < 8; d++) DUE.is("choices", x.dish(d, 5), 12);
        for (int set : new int[] {0b00001111, 0b11110000, 0b10011001}) {
            x.dinner(set);
            DUE.least(x, 20, 6, 0, 1, 2, 5);
            DUE.begins(x, 20, 17, 18, 19, 16, 17, 18, 15, 16, 17, 14, 16, 17);
            DUE.is("by waits alone there are three minutes", x.seven(20), 0);
            DUE.is("earliest", x.earliest(), 6);
            DUE.is("more", x.more(20), 0);
            DUE.is("dinners", x.dinners(1, 20, 0), 162);
            DUE.is("the greatest", x.dinners(1, 20, 1), 15);
        }
        x.dinner(0b11100000);
        DUE.is("by waits alone", x.seven(20), 1);
        DUE.is("earliest", x.earliest(), 5);
        DUE.is("more", x.more(20), 0b00011111);
    }

    private static void beginsNumbers() {
        DUE.of("When the k-th STEP of the DINNER (0 on) begins in LEAST's PLAN by T; NONE: not so many, no PLAN. BAD: T, k below 0; STATE: no BOOK.");
        HotAtSeven x = DUE.with(TWELVE);
        for (int n = 1; n <= 4; n++) {
            x.dinner((1 << n) - 1);
            DUE.is("the first of " + n, x.begins(60, 0), 57);
            DUE.is("the last of " + n, x.begins(60, 3 * n - 1), 59);
            DUE.is("one more than " + n, x.begins(60, 3 * n), NONE);
            DUE.is("far more", x.begins(60, MOST), NONE);
            for (int k : new int[] {-1, LEAST}) DUE.is("k " + k, x.begins(60, k), BAD);
        }
        for (int t : NO_TIMES) DUE.is("by " + t, x.begins(t, 0), BAD);
        for (int k = 0; k <= 12; k++) DUE.is("no plan, " + k, x.begins(2, k), NONE);
        DUE.is("a plan", x.begins(3, 0), 0);
        HotAtSeven y = new HotAtSeven();
        DUE.is("no book", y.begins(1, 0), HotAtSeven.STATE);
        DUE.is("no book, k -1", y.begins(1, -1), BAD);
        for (int t : NO_TIMES) DUE.is("no book, by " + t, y.begins(t, 0), BAD);
    }

    // ---- seven, earliest

    private static void sevenTimes() {
        DUE.of("`int seven(int t)`: SEVEN: 1, 0. BAD; STATE: no BOOK.");
        HotAtSeven x = DUE.with(Due.RESTING);
        DUE.is("by 1", x.seven(1), 1);
        DUE.is("by 60", x.seven(60), 1);
        HotAtSeven y = new HotAtSeven();
        DUE.is("no book, by 1", y.seven(1), HotAtSeven.STATE);
        DUE.is("no book, by 60", y.seven(60), HotAtSeven.STATE);
        for (int t : NO_TIMES) {
            DUE.is("by " + t, x.seven(t), BAD);
            DUE.is("no book, by " + t, y.seven(t), BAD);
        }
    }

    private static void sevenAndLeast() {
        DUE.of("SEVEN: whether there is a PLAN in which EARLY is 0 for all.");
        String dish = "dish 1 0 0;hand 1 0;";
        for (int n = 1; n <= 4; n++) {
            for (int hands = 1; hands <= 3; hands++) {
                HotAtSeven x = DUE.with("kitchen 0 0 0 0 0 " + hands + " 0;" + dish.repeat(n));
                x.dinner((1 << n) - 1);
                DUE.is(n + " by " + hands + ", all at T", x.seven(20), n <= hands ? 1 : 0);
                DUE.is(n + " by " + hands, x.least(20, -1), n <= 2 * hands ? 0 : NONE);
            }
        }
        // It may wait, however much that costs more than being early.
        HotAtSeven y = DUE.with("kitchen 0 0 0 0 0 1 0;away 17 17;dish 1 0 0;hand 1 1;rest 2 0;");
        DUE.least(y, 20, 0, 1);
        DUE.is("by a wait", y.seven(20), 1);
        HotAtSeven z = DUE.with("kitchen 0 0 0 0 0 1 0;away 17 17;dish 1 0 0;hand 1 0;rest 2 1;");
        DUE.is("no wait behind the hand", z.seven(20), 0);
        DUE.is("too early", z.seven(2), 0);
        DUE.is("just so", z.seven(3), 1);
    }

    private static void earliestEnds() {
        DUE.of("EARLIEST; NONE. STATE: no BOOK.");
        String[] dishes = {"rest 1 0;", "rest 30 0;rest 29 0;", "rest 30 0;rest 30 0;", "rest 30 0;rest 30 0;rest 1 0;", "rest 30 0;rest 30 0;rest 30 0;"};
        int[] due = {1, 59, 60, NONE, NONE};
        for (int i = 0; i < dishes.length; i++) {
            HotAtSeven x = DUE.with("kitchen 0 0 0 0 0 1 0;dish 2 0 0;" + dishes[i]);
            DUE.is("earliest of " + dishes[i], x.earliest(), due[i]);
            DUE.is("least by 60", x.least(60, -1), due[i] == NONE ? NONE : 0);
        }
        DUE.is("no book", new HotAtSeven().earliest(), HotAtSeven.STATE);
    }

    private static void earliestIsTheLeast() {
        DUE.of("EARLIEST: the least T by which there is a PLAN.");
        HotAtSeven x = DUE.with("kitchen 0 1 0 0 0 1 0;away 0 4;away 6 59;dish 0 0 0;hand 1 0;dish 1 0 0;hand 1 0;dish 0 0 0;hand 2 0;dish 0 0 0;ring 3 0 0 1;");
        DUE.is("one minute alone", x.earliest(), 6);
        DUE.is("ahead of it", x.least(5, -1), NONE);
        DUE.is("behind it", x.least(7, -1), NONE);
        x.dinner(2);
        DUE.is("not the later one", x.earliest(), 6);
        DUE.is("early", x.least(7, 0), 1);
        x.dinner(4);
        DUE.is("never", x.earliest(), NONE);
        x.dinner(8);
        x.out(3);
        DUE.is("while the ring is there", x.earliest(), 3);
        x.out(2);
        DUE.is("out ahead of its end", x.earliest(), NONE);
        HotAtSeven last = DUE.with("kitchen 0 0 0 0 0 1 0;away 0 58;dish 0 0 0;hand 1 0;");
        DUE.is("the last minute", last.earliest(), 60);
        HotAtSeven oven = DUE.with("kitchen 0 0 1 1 9 1 0;dish 0 0 0;oven 1 0 0 9 9;");
        DUE.is("when it is hot", oven.earliest(), 9);
    }

    private static void earliestWhateverWasAsked() {
        DUE.of("EARLIEST: the least T by which there is a PLAN.");
        HotAtSeven x = DUE.with("kitchen 0 2 0 0 0 2 0;dish 0 0 0;ring 3 0 2 1;dish 0 0 0;ring 3 0 2 1;");
        x.dinner(3);
        DUE.is("at first", x.earliest(), 3);
        DUE.is("for one hand", x.dinners(1, 60, 0), 2);
        DUE.is("behind that", x.earliest(), 3);
        DUE.is("one ring", x.mend(60, 0), NONE);
        DUE.is("behind that", x.earliest(), 3);
        x.out(2);
        DUE.is("one is out", x.earliest(), NONE);
        x.out(3);
        DUE.is("one is out behind it", x.earliest(), 3);
    }

    // ---- heats

    private static void heatNumbers() {
        DUE.of("The HEAT in a MINUTE by LEAST's PLAN by T; NONE: no PLAN. BAD; STATE: no BOOK.");
        HotAtSeven x = DUE.with("kitchen 0 0 1 9 0 1 0;dish 0 0 0;oven 2 0 0 4 9;");
        DUE.is("by 2, minute 0", x.heat(2, 0), 4);
        DUE.is("by 2, minute 59", x.heat(2, 59), 4);
        DUE.is("by 60, minute 57", x.heat(60, 57), 0);
        DUE.is("by 60, minute 58", x.heat(60, 58), 4);
        DUE.is("by 60, minute 59", x.heat(60, 59), 4);
        DUE.is("no plan", x.heat(1, 0), NONE);
        HotAtSeven y = new HotAtSeven();
        DUE.is("no book", y.heat(1, 0), HotAtSeven.STATE);
        for (int t : NO_TIMES) {
            DUE.is("by " + t, x.heat(t, 0), BAD);
            DUE.is("no book, by " + t, y.heat(t, 0), BAD);
        }
        for (int m : NO_MINUTES) {
            DUE.is("minute " + m, x.heat(2, m), BAD);
            DUE.is("no plan, minute " + m, x.heat(1, m), BAD);
            DUE.is("no book, minute " + m, y.heat(2, m), BAD);
        }
    }

    private static void heats(HotAtSeven x, int t, int... due) {
        for (int m = 0; m < due.length; m++) DUE.is("heat " + m, x.heat(t, m), due[m]);
    }

    private static void heatsLowest() {
        DUE.of("the lowest in each MINUTE, one MINUTE behind the other, from which on all others can be reached");
        // It warms as late as can be, and cools as fast as can be.
        heats(DUE.with("kitchen 0 0 1 4 3 1 0;dish 0 0 0;oven 2 0 0 9 9;"), 7, 0, 0, 0, 1, 5, 9, 9, 6, 3, 0, 0);
        heats(DUE.with("kitchen 0 0 1 9 9 1 0;dish 0 0 0;oven 2 0 0 9 9;"), 7, 0, 0, 0, 0, 0, 9, 9, 0);
        heats(DUE.with("kitchen 0 0 1 1 1 1 0;dish 0 0 0;oven 1 0 0 3 9;"), 3, 1, 2, 3, 2, 1, 0, 0);
        heats(DUE.with("kitchen 0 0 1 1 0 1 0;dish 0 0 0;oven 1 0 0 3 9;"), 3, 1, 2, 3, 3, 3, 3);
        heats(DUE.with("kitchen 0 0 1 9 9 1 0;dish 0 0 0;oven 3 0 0 0 9;"), 3, 0, 0, 0, 0);
    }

    private static void heatsOfTheLastMinute() {
        DUE.of("the lowest in each MINUTE, one MINUTE behind the other");
        HotAtSeven x = DUE.with("kitchen 0 0 1 4 3 1 0;dish 0 0 0;oven 1 0 0 9 9;");
        int[] due = {0, 1, 5, 9};
        for (int i = 0; i < 4; i++) DUE.is("heat " + (56 + i), x.heat(60, 56 + i), due[i]);
        HotAtSeven y = DUE.with("kitchen 0 0 1 9 9 1 0;dish 0 0 0;oven 1 0 0 9 9;");
        DUE.is("the first minute", y.heat(1, 0), 9);
        DUE.is("behind it", y.heat(1, 1), 0);
    }

    private static void heatsBetween() {
        DUE.of("from which on all others can be reached");
        // 6 at 0 and 1, then 6 again at 4: it may fall to 5 in between only as it can rise again.
        heats(DUE.with("kitchen 0 0 1 6 6 1 0;dish 0 0 0;oven 2 0 0 6 9;rest 2 0;oven 1 0 0 6 9;"), 5, 6, 6, 0, 0, 6, 0);
        heats(DUE.with("kitchen 0 0 1 3 6 1 0;dish 0 0 0;rest 1 0;oven 2 0 0 6 9;rest 3 0;"), 6, 3, 6, 6, 0, 0);
        heats(DUE.with("kitchen 0 0 2 6 1 1 0;dish 0 0 0;oven 2 0 0 6 9;rest 2 0;oven 1 0 0 6 9;"), 5, 6, 6, 5, 4, 6, 5, 4, 3, 2, 1, 0);
        heats(DUE.with("kitchen 0 0 2 2 2 1 0;dish 0 0 0;rest 2 0;oven 1 0 0 6 9;rest 3 0;"), 6, 2, 4, 6, 4, 2, 0);
        HotAtSeven two = DUE.with("kitchen 0 0 2 2 2 1 0;dish 0 0 0;rest 2 0;oven 1 0 0 6 9;rest 3 0;dish 0 0 0;oven 1 0 0 5 9;");
        two.dinner(3);
        heats(two, 6, 2, 4, 6, 4, 3, 5, 3, 1, 0);
    }

    private static void heatsOfNoOven() {
        DUE.of("HEATS of the PLAN that LEAST tells");
        HotAtSeven x = DUE.with("kitchen 0 0 1 9 9 1 0;dish 0 0 0;rest 1 0;dish 1 1 0;oven 1 0 0 5 9;");
        for (int m : new int[] {0, 1, 59}) DUE.is("no oven, minute " + m, x.heat(1, m), 0);
        x.dinner(2);
        DUE.is("EARLY 0, the plan of LEAST", x.heat(20, 19), 5);
        DUE.is("and no other", x.heat(20, 18), 0);
    }

    // ---- wanted

    private static void wantedNumbers() {
        DUE.of("are wanted in a MINUTE by LEAST's PLAN by T; NONE: no PLAN. BAD; STATE: no BOOK.");
        HotAtSeven x = DUE.with("kitchen 0 0 0 0 0 1 0;dish 0 0 0;hand 2 0;");
        DUE.is("the first minute", x.wanted(2, 0, 0), 1);
        DUE.is("the last minute", x.wanted(60, 59, 0), 1);
        DUE.is("no plan", x.wanted(1, 0, 0), NONE);
        HotAtSeven y = new HotAtSeven();
        for (int w = 0; w < 4; w++) DUE.is("no book, " + w, y.wanted(1, 0, w), HotAtSeven.STATE);
        for (int w : new int[] {-1, 4, LEAST, MOST}) {
            DUE.is("what " + w, x.wanted(2, 0, w), BAD);
            DUE.is("no book, what " + w, y.wanted(2, 0, w), BAD);
            DUE.is("no plan, what " + w, x.wanted(1, 0, w), BAD);
        }
        for (int t : NO_TIMES) {
            DUE.is("by " + t, x.wanted(t, 0, 0), BAD);
            DUE.is("no book, by " + t, y.wanted(t, 0, 0), BAD);
        }
        for (int m : NO_MINUTES) {
            DUE.is("minute " + m, x.wanted(2, m, 0), BAD);
            DUE.is("no book, minute " + m, y.wanted(2, m, 0), BAD);
        }
    }

    private static void wantedOfAll() {
        DUE.of("How many HANDS (what = 0), RINGS (1), SHELVES (2), PANS (3)");
        String[] dishes = {"dish 0 0 0;rest 2 0;hand 2 0;rest 1 0;", "dish 0 0 0;rest 2 0;ring 2 0 0 0;rest 1 0;", "dish 0 0 0;rest 2 0;ring 2 0 0 1;rest 1 0;",
            "dish 0 0 0;rest 2 0;oven 2 0 0 0 0;rest 1 0;", "dish 0 0 1;rest 2 0;", "dish 0 0 0;rest 2 0;ring 2 0 1 0;rest 1 0;", "dish 0 0 0;rest 2 0;oven 2 0 2 0 0;rest 1 0;"};
        // By 20: minutes 16 to 19; in 17 and 18, or for the pan 18 and 19.
        int[][][] due = {{{17, 18}, {}, {}, {}}, {{}, {17, 18}, {}, {}}, {{}, {17, 18}, {}, {}}, {{}, {}, {17, 18}, {}}, {{}, {}, {}, {18, 19}},
            {{17}, {17, 18}, {}, {}}, {{17, 18}, {}, {17, 18}, {}}};
        int[] most = {3, 4, 3, 3, 4, 3, 3};
        for (int d = 0; d < dishes.length; d++) {
            HotAtSeven x = DUE.with("kitchen 3 3 3 0 0 3 9;" + dishes[d].repeat(4));
            for (int n = 1; n <= most[d]; n++) {
                x.dinner((1 << n) - 1);
                for (int minute = 15; minute <= 20; minute++)
                    for (int w = 0; w < 4; w++) DUE.is(n + " of " + dishes[d] + " " + minute + " " + w, x.wanted(20, minute, w), among(due[d][w], minute) ? n : 0);
            }
        }
    }

    private static boolean among(int[] minutes, int minute) {
        for (int m : minutes) if (m == minute) return true;
        return false;
    }

    private static void wantedMinutes() {
        DUE.of("are wanted in a MINUTE by LEAST's PLAN by T");
        // The pan is wanted in the wait, too, the ring and the hand are not.
        HotAtSeven x = DUE.with("kitchen 0 1 0 0 0 1 1;away 17 17;dish 0 0 1;ring 2 1 2 1;rest 2 0;");
        DUE.least(x, 20, 1, 1);
        int[][] due = {{14, 0, 0, 0}, {15, 1, 1, 1}, {16, 1, 1, 1}, {17, 0, 0, 1}, {18, 0, 0, 1}, {19, 0, 0, 1}, {20, 0, 0, 0}};
        for (int[] d : due) {
            DUE.is("hands at " + d[0], x.wanted(20, d[0], 0), d[1]);
            DUE.is("rings at " + d[0], x.wanted(20, d[0], 1), d[2]);
            DUE.is("shelves at " + d[0], x.wanted(20, d[0], 2), 0);
            DUE.is("pans at " + d[0], x.wanted(20, d[0], 3), d[3]);
        }
    }
}
