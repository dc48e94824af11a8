import java.util.Arrays;

/** The part 2 of the terms at its boundaries, sentence by sentence: what STEPS WANT, what a KITCHEN gives, CHOICES, COST. */
public final class EdgesWantsTest {
    private static final Due DUE = new Due("EdgesWantsTest");
    private static final int NONE = HotAtSeven.NONE;

    public static void main(String[] args) {
        bigRings();
        allRings();
        ringsOfBothSizes();
        smallOnesAreNotBig();
        shelves();
        hands();
        pans();
        eachMinuteOfItsLong();
        eachMinuteOfARing();
        stirNought();
        stirOne();
        stirTwo();
        handAndStir();
        panThroughAll();
        panNought();
        ringOut();
        ringOutOfMany();
        stepsOfOneDish();
        lowToHigh();
        warmsFromTheStart();
        warmsAtMost();
        coolsAtMost();
        heatsThroughAWait();
        heatsOfTwoDishes();
        heatsOfTwoDishesBetween();
        heatNoLessThanNought();
        noStepAheadOfNought();
        earlyToKeep();
        waitsToWait();
        choiceNumbers();
        costs();
        allMinutes();
        DUE.end();
    }

    private static void upTo(String kitchen, String dish, int given, int word) {
        upTo(kitchen, dish, 4, given, word);
    }

    /** The first n of some dishes that want one thing from minute 10 on: so many are given, or word lacks. */
    private static void upTo(String kitchen, String dish, int most, int given, int word) {
        HotAtSeven x = DUE.with(kitchen + dish.repeat(most));
        for (int n = 1; n <= most; n++) {
            x.dinner((1 << n) - 1);
            int[] begins = new int[n];
            Arrays.fill(begins, 10);
            DUE.judged(x, 12, n <= given ? 0 : 1100 + word, begins);
            DUE.is("least, " + n + " of " + given, x.least(12, -1), n <= given ? 0 : NONE);
            DUE.is("seven, " + n + " of " + given, x.seven(12), n <= given ? 1 : 0);
            DUE.is("earliest, " + n + " of " + given, x.earliest(), n <= given ? 2 : NONE);
        }
    }

    private static void bigRings() {
        DUE.of("1: a BIG one.");
        for (int big = 0; big <= 3; big++) upTo("kitchen 3 " + big + " 0 0 0 3 0;", "dish 0 0 0;ring 2 0 0 1;", big, 1);
    }

    private static void allRings() {
        DUE.of("SIZE 0: a SMALL or a BIG one");
        for (int small = 0; small <= 3; small++)
            for (int big = 0; big <= 3; big++) upTo("kitchen " + small + " " + big + " 0 0 0 3 0;", "dish 0 0 0;ring 2 0 0 0;", small + big, 2);
    }

    private static void ringsOfBothSizes() {
        DUE.of("steps of SIZE 0 and 1 together no more than SMALL and BIG ones");
        for (int small = 0; small <= 2; small++) {
            for (int big = 1; big <= 2; big++) {
                HotAtSeven x = DUE.with("kitchen " + small + " " + big + " 0 0 0 3 0;" + "dish 0 0 0;ring 2 0 0 1;".repeat(2)
                    + "dish 0 0 0;ring 2 0 0 0;".repeat(4));
                for (int of1 = 1; of1 <= big; of1++) {
                    for (int of0 = 0; of0 + of1 <= 4; of0++) {
                        x.dinner((1 << of1) - 1 | (1 << of0) - 1 << 2);
                        int[] begins = new int[of1 + of0];
                        Arrays.fill(begins, 10);
                        boolean given = of0 + of1 <= small + big;
                        DUE.judged(x, 12, given ? 0 : 1102, begins);
                        DUE.is("least", x.least(12, -1), given ? 0 : NONE);
                    }
                }
            }
        }
    }

    private static void smallOnesAreNotBig() {
        DUE.of("ring: a RING: SIZE 0: a SMALL or a BIG one, 1: a BIG one.");
        HotAtSeven x = DUE.with("kitchen 3 0 0 0 0 3 0;dish 0 0 0;ring 1 0 0 1;dish 0 0 0;ring 1 0 0 0;");
        DUE.is("no BIG one", x.earliest(), NONE);
        x.dinner(2);
        DUE.is("a SMALL one", x.earliest(), 1);
        HotAtSeven y = DUE.with("kitchen 0 1 0 0 0 3 0;dish 0 0 0;ring 1 0 0 1;dish 0 0 0;ring 1 0 0 0;");
        DUE.is("a BIG one", y.earliest(), 1);
        y.dinner(2);
        DUE.is("a BIG one for SIZE 0", y.earliest(), 1);
        y.dinner(3);
        DUE.is("not both", y.earliest(), NONE);
    }

    private static void shelves() {
        DUE.of("oven: a SHELF, and that the oven has a HEAT from LOW to HIGH.");
        for (int n = 0; n <= 3; n++) upTo("kitchen 0 0 " + n + " 9 9 3 0;", "dish 0 0 0;oven 2 0 0 0 9;", n, 3);
    }

    private static void hands() {
        DUE.of("hand: a HAND.");
        for (int n = 1; n <= 3; n++) {
            upTo("kitchen 0 0 0 0 0 " + n + " 0;", "dish 0 0 0;hand 2 0;", n, 5);
            upTo("kitchen 3 3 0 0 0 " + n + " 0;", "dish 0 0 0;ring 2 0 1 0;", n, 5);
            upTo("kitchen 3 3 0 0 0 " + n + " 0;", "dish 0 0 0;ring 2 0 2 0;", n, 5);
            upTo("kitchen 0 0 3 0 0 " + n + " 0;", "dish 0 0 0;oven 2 0 1 0 0;", 3, n, 5);
            upTo("kitchen 0 0 3 0 0 " + n + " 0;", "dish 0 0 0;oven 2 0 2 0 0;", 3, n, 5);
        }
    }

    private static void pans() {
        DUE.of("A DISH with PAN 1: a PAN");
        for (int n : new int[] {0, 1, 2, 3, 4, 9}) upTo("kitchen 0 0 0 0 0 3 " + n + ";", "dish 0 0 1;rest 2 0;", n, 6);
    }

    /**
     * Two dishes that want one thing of which there is one: the first in minutes 10, 11, 12; the second in
     * two minutes from its beginning on, up against it and one minute over it, on both sides.
     */
    private static void sideBySide(String kitchen, String step, int word) {
        int[][] sides = {{8, 0}, {9, 1100 + word}, {10, 1100 + word}, {11, 1110 + word}, {12, 1120 + word}, {13, 0}};
        for (int[] side : sides) {
            String second = step.replace("%s", "2");
            HotAtSeven x = DUE.with(kitchen + "dish 0 0 0;" + step.replace("%s", "3") + "rest 12 0;dish 0 0 0;" + second + "rest " + (25 - side[0] - 2) + " 0;");
            x.dinner(3);
            DUE.judged(x, 25, side[1], 10, 13, side[0], side[0] + 2);
            DUE.is("from " + side[0] + " on", x.least(25, -1), side[1] == 0 ? 0 : NONE);
        }
    }

    private static void eachMinuteOfItsLong() {
        DUE.of("A STEP WANTS, in each MINUTE of its LONG from its beginning on");
        sideBySide("kitchen 0 1 0 0 0 3 0;", "ring %s 0 0 1;", 1);
        sideBySide("kitchen 1 0 0 0 0 3 0;", "ring %s 0 0 0;", 2);
        sideBySide("kitchen 0 0 1 9 9 3 0;", "oven %s 0 0 0 9;", 3);
        sideBySide("kitchen 0 0 0 0 0 1 0;", "hand %s 0;", 5);
        sideBySide("kitchen 3 0 0 0 0 1 0;", "ring %s 0 2 0;", 5);
        sideBySide("kitchen 0 0 3 0 0 1 0;", "oven %s 0 2 0 0;", 5);
    }

    private static void eachMinuteOfARing() {
        DUE.of("in each MINUTE of its LONG from its beginning on");
        for (int length : new int[] {1, 2, 29, 30}) {
            for (int away : new int[] {9, 10, 10 + length - 1, 10 + length}) {
                HotAtSeven x = DUE.with("kitchen 0 0 0 0 0 1 0;away " + away + " " + away + ";dish 0 0 0;hand " + length + " 0;");
                boolean in = away >= 10 && away < 10 + length;
                DUE.judged(x, 10 + length, in ? 1005 + 10 * away : 0, 10);
                DUE.is("long " + length + ", away " + away, x.least(10 + length, -1), in ? NONE : 0);
            }
        }
    }

    /** A step from 10 to 12, and a hand away in one minute. */
    private static void stirred(String step, String minutes) {
        for (int away = 9; away <= 13; away++) {
            HotAtSeven x = DUE.with("kitchen 1 0 1 0 0 1 0;away " + away + " " + away + ";dish 0 0 0;" + step);
            boolean in = minutes.contains("" + away);
            DUE.judged(x, 13, in ? 1005 + 10 * away : 0, 10);
            DUE.is(step + " away " + away, x.least(13, -1), in ? NONE : 0);
        }
    }

    private static void stirNought() {
        DUE.of("STIR: 1: a HAND in its first MINUTE, 2: in all.");
        stirred("ring 3 0 0 0;", "");
        stirred("oven 3 0 0 0 0;", "");
        stirred("rest 3 0;", "");
        stirred("keep 3 0 0;", "");
    }

    private static void stirOne() {
        DUE.of("1: a HAND in its first MINUTE");
        stirred("ring 3 0 1 0;", "10");
        stirred("oven 3 0 1 0 0;", "10");
    }

    private static void stirTwo() {
        DUE.of("2: in all.");
        stirred("ring 3 0 2 0;", "10 11 12");
        stirred("oven 3 0 2 0 0;", "10 11 12");
        stirred("hand 3 0;", "10 11 12");
    }

    private static void handAndStir() {
        DUE.of("STIR: 1: a HAND in its first MINUTE");
        // One hand for the first minute of the ring, and for the hand ahead of it or behind its first minute.
        int[][] due = {{7, 0}, {8, 1105}, {9, 1105}, {10, 1105}, {11, 0}};
        for (int[] d : due) {
            HotAtSeven x = DUE.with("kitchen 1 0 0 0 0 1 0;dish 0 0 0;ring 3 0 1 0;rest 12 0;dish 0 0 0;hand 3 0;rest " + (22 - d[0]) + " 0;");
            x.dinner(3);
            DUE.judged(x, 25, d[1], 10, 13, d[0], d[0] + 3);
        }
    }

    private static void panThroughAll() {
        DUE.of("a PAN from the beginning of its first STEP to the end of its last one.");
        // Dish 0 holds the pan from 14 to 17, a wait in the midst; dish 1 takes it behind that, or a minute too early.
        HotAtSeven x = DUE.with("kitchen 0 0 0 0 0 1 1;dish 2 0 1;rest 1 1;rest 2 0;dish 0 0 1;rest 2 0;dish 0 0 1;rest 3 0;dish 0 0 1;rest 6 0;dish 0 0 1;rest 7 0;");
        x.dinner(0b00011);
        DUE.judged(x, 20, 0, 14, 16, 18);
        x.dinner(0b00101);
        DUE.judged(x, 20, 1176, 14, 16, 17);
        x.dinner(0b01001);
        DUE.judged(x, 20, 1146, 14, 16, 14);
        // Taken in the wait alone, or ahead of its first minute.
        HotAtSeven y = DUE.with("kitchen 0 0 0 0 0 1 1;dish 0 0 1;rest 1 1;rest 2 0;dish 2 0 1;rest 1 0;dish 2 0 1;rest 3 0;");
        y.dinner(0b011);
        DUE.judged(y, 5, 1036, 1, 3, 3);
        DUE.judged(y, 5, 1026, 2, 3, 2);
        y.dinner(0b001);
        DUE.judged(y, 5, 0, 1, 3);
        HotAtSeven z = DUE.with("kitchen 0 0 0 0 0 1 1;away 16 16;dish 0 0 1;hand 1 1;rest 2 0;dish 2 0 1;rest 1 0;dish 2 0 1;rest 1 0;");
        z.dinner(0b011);
        DUE.is("the wait is held, too", z.least(19, -1), NONE);
        z.dinner(0b110);
        DUE.least(z, 19, 0, 0, 1);
    }

    private static void panNought() {
        DUE.of("A DISH with PAN 1");
        HotAtSeven x = DUE.with("kitchen 0 0 0 0 0 1 0;dish 0 0 0;rest 2 0;dish 0 0 1;rest 2 0;");
        DUE.judged(x, 2, 0, 0);
        x.dinner(2);
        DUE.judged(x, 2, 1006, 0);
    }

    private static void ringOut() {
        DUE.of("BIG ones as many as BIG, less 1 if one is OUT then");
        for (String size : new String[] {"1", "0"}) {
            HotAtSeven x = DUE.with("kitchen 0 1 0 0 0 1 0;dish 0 0 0;ring 3 0 0 " + size + ";");
            int word = size.equals("1") ? 1 : 2;
            int[][] due = {{9, 1100 + word}, {10, 1100 + word}, {11, 1110 + word}, {12, 1120 + word}, {13, 0}, {60, 0}};
            for (int[] d : due) {
                x.out(d[0]);
                DUE.judged(x, 13, d[1], 10);
                DUE.is("out from " + d[0], x.least(13, -1), d[1] == 0 ? 0 : NONE);
            }
        }
    }

    private static void ringOutOfMany() {
        DUE.of("BIG ones as many as BIG, less 1 if one is OUT then; steps of SIZE 0 and 1 together no more than SMALL and BIG ones");
        for (int size = 0; size <= 1; size++) {
            for (int small = 0; small <= 3; small++) {
                for (int big = 1; big <= 3; big++) {
                    HotAtSeven x = DUE.with("kitchen " + small + " " + big + " 0 0 0 1 0;" + ("dish 0 0 0;ring 2 0 0 " + size + ";").repeat(4));
                    int all = size == 1 ? big : small + big;
                    for (int n = 1; n <= 4; n++) {
                        x.dinner((1 << n) - 1);
                        int[] begins = new int[n];
                        Arrays.fill(begins, 10);
                        x.out(11);
                        int lack = n > all ? 1100 : n > all - 1 ? 1110 : 0;
                        DUE.judged(x, 12, lack > 0 ? lack + 2 - size : 0, begins);
                        DUE.is("out in it", x.least(12, -1), lack > 0 ? NONE : 0);
                        x.out(12);
                        DUE.is("out behind it", x.least(12, -1), n > all ? NONE : 0);
                    }
                }
            }
        }
    }

    /** What the first step of a dish wants is wanted beside what the last one wants. */
    private static void stepsOfOneDish() {
        DUE.of("A STEP WANTS, in each MINUTE of its LONG");
        String[][] steps = {{"kitchen 3 1 0 0 0 3 0;", "ring 2 0 0 1;", "1"}, {"kitchen 1 0 0 0 0 3 0;", "ring 2 0 0 0;", "2"}, {"kitchen 0 0 1 9 9 3 0;", "oven 2 0 0 0 9;", "3"},
            {"kitchen 0 0 0 0 0 1 0;", "hand 2 0;", "5"}, {"kitchen 3 0 0 0 0 1 0;", "ring 2 0 1 0;", "5"}, {"kitchen 3 0 0 0 0 1 0;", "ring 2 0 2 0;", "5"}};
        for (String[] s : steps) {
            int word = Integer.parseInt(s[2]);
            // Dish 0 in 14, 15 and in 18, 19; dish 1 in one of them, or between.
            int[][] due = {{13, 1140 + word}, {14, 1140 + word}, {16, 0}, {18, 1180 + word}};
            for (int[] d : due) {
                HotAtSeven x = DUE.with(s[0] + "dish 0 0 0;" + s[1] + "rest 2 0;" + s[1] + "dish 0 0 0;" + s[1] + (d[0] < 18 ? "rest " + (18 - d[0]) + " 0;" : ""));
                // A hand in the first minute alone is not wanted in the second.
                boolean apart = s[1].equals("ring 2 0 1 0;") && d[0] == 13;
                x.dinner(3);
                if (d[0] < 18) DUE.judged(x, 20, apart ? 0 : d[1], 14, 16, 18, d[0], d[0] + 2);
                else DUE.judged(x, 20, d[1], 14, 16, 18, 18);
                DUE.is(s[1] + " at " + d[0], x.least(20, -1), d[1] == 0 || apart ? 0 : NONE);
            }
        }
    }

    /** One step in the oven from a minute on. */
    private static void baked(int warms, int begin, int low, int high, boolean can) {
        HotAtSeven x = DUE.with("kitchen 0 0 1 " + warms + " 0 1 0;dish 0 0 0;oven 2 0 0 " + low + " " + high + ";");
        DUE.judged(x, begin + 2, can ? 0 : 1004 + 10 * begin, begin);
        DUE.is("warms " + warms + ", " + low + " at " + begin, x.least(begin + 2, -1), can ? 0 : NONE);
        if (can) DUE.is("its heat", x.heat(begin + 2, begin), low);
    }

    private static void lowToHigh() {
        DUE.of("that the oven has a HEAT from LOW to HIGH");
        // It warms by so much at most, so LOW is what it just reaches, or one more; HIGH may be just that.
        for (int low = 0; low <= 9; low++) {
            baked(low, 0, low, low, true);
            baked(low, 0, low, 9, true);
            if (low > 0) baked(low - 1, 0, low, low, false);
        }
    }

    private static void warmsFromTheStart() {
        DUE.of("The oven has each MINUTE a HEAT 0 to 9, 0 ahead of MINUTE 0");
        for (int warms = 1; warms <= 9; warms++) {
            for (int begin = 0; begin < 10; begin++) {
                int reached = Math.min(9, warms * (begin + 1));
                baked(warms, begin, reached, reached, true);
                if (reached < 9) baked(warms, begin, reached + 1, 9, false);
            }
        }
        for (int begin : new int[] {0, 30, 58}) {
            baked(0, begin, 0, 0, true);
            baked(0, begin, 1, 9, false);
        }
        baked(9, 0, 0, 0, true);
    }

    /** Two steps in the oven, so many minutes of rest between them, one minute each. */
    private static void between(int warms, int cools, int rest, String first, String second, boolean can) {
        String midst = rest > 0 ? "rest " + rest + " 0;" : "";
        HotAtSeven x = DUE.with("kitchen 0 0 1 " + warms + " " + cools + " 1 0;dish 0 0 0;oven 1 0 0 " + first + ";" + midst + "oven 1 0 0 " + second + ";");
        int at = 20 + 1 + rest;
        if (rest > 0) DUE.judged(x, at + 1, can ? 0 : 1004 + 10 * at, 20, 21, at);
        else DUE.judged(x, at + 1, can ? 0 : 1004 + 10 * at, 20, at);
        DUE.is(first + " to " + second + " in " + (rest + 1), x.least(at + 1, -1), can ? 0 : NONE);
    }

    private static void warmsAtMost() {
        DUE.of("from MINUTE to MINUTE it grows by WARMS at most, falls by COOLS at most");
        for (int warms = 1; warms <= 4; warms++) {
            for (int rest = 0; rest <= 1; rest++) {
                int grown = warms * (rest + 1);
                between(warms, 9, rest, "0 0", grown + " " + grown, true);
                between(warms, 9, rest, "0 0", grown + 1 + " 9", false);
                between(warms, 9, rest, "0 1", grown + 1 + " 9", true);
            }
        }
        between(0, 9, 5, "0 0", "0 0", true);
        between(0, 9, 5, "0 0", "1 1", false);
    }

    private static void coolsAtMost() {
        DUE.of("it grows by WARMS at most, falls by COOLS at most");
        for (int cools = 1; cools <= 4; cools++) {
            for (int rest = 0; rest <= 1; rest++) {
                int fallen = 9 - cools * (rest + 1);
                between(9, cools, rest, "9 9", fallen + " " + fallen, true);
                between(9, cools, rest, "9 9", "0 " + fallen, true);
                if (fallen > 0) between(9, cools, rest, "9 9", "0 " + (fallen - 1), false);
                if (fallen > 0) between(9, cools, rest, "8 9", "0 " + (fallen - 1), true);
            }
        }
        between(9, 0, 5, "3 3", "3 9", true);
        between(9, 0, 5, "3 3", "0 2", false);
        between(9, 9, 0, "9 9", "0 0", true);
        between(9, 8, 0, "9 9", "0 0", false);
    }

    /** A minute more between the two steps, if that is what it needs to cool, or to warm. */
    private static void heatsThroughAWait() {
        DUE.of("from MINUTE to MINUTE it grows by WARMS at most, falls by COOLS at most");
        int[][] due = {{9, 0}, {5, 0}, {4, 1}, {3, 1}, {2, NONE}};
        for (int[] d : due) {
            for (int wait = 0; wait <= 1; wait++) {
                int cost = d[1] <= wait ? d[1] : NONE;
                HotAtSeven cool = DUE.with("kitchen 0 0 1 9 " + d[0] + " 1 0;dish 0 0 0;oven 2 " + wait + " 0 9 9;oven 2 0 0 0 4;");
                DUE.is("falls by " + d[0], cool.least(20, -1), cost);
                DUE.is("its choice", cool.least(20, 0), cost);
                HotAtSeven warm = DUE.with("kitchen 0 0 1 " + d[0] + " 9 1 0;dish 0 0 0;oven 2 " + wait + " 0 0 0;oven 2 0 0 5 9;");
                DUE.is("grows by " + d[0], warm.least(20, -1), cost);
                DUE.is("its choice", warm.least(20, 0), cost);
            }
        }
    }

    private static void heatsOfTwoDishes() {
        DUE.of("The oven has each MINUTE a HEAT 0 to 9");
        String[][] pairs = {{"2 5", "5 9", "0"}, {"2 5", "6 9", "1184"}, {"5 9", "2 5", "0"}, {"6 9", "2 5", "1184"}, {"0 0", "0 9", "0"},
            {"9 9", "0 9", "0"}, {"0 0", "1 9", "1184"}};
        for (String[] p : pairs) {
            int judged = Integer.parseInt(p[2]);
            // Both from 18 on.
            HotAtSeven x = DUE.with("kitchen 0 0 2 9 9 1 0;dish 0 0 0;oven 2 0 0 " + p[0] + ";dish 0 0 0;oven 2 0 0 " + p[1] + ";");
            x.dinner(3);
            DUE.judged(x, 20, judged, 18, 18);
            DUE.is(p[0] + " and " + p[1], x.least(20, -1), judged == 0 ? 0 : NONE);
            // In one minute alone.
            HotAtSeven y = DUE.with("kitchen 0 0 2 9 9 1 0;dish 0 0 0;oven 3 0 0 " + p[0] + ";rest 1 0;dish 0 0 0;oven 2 0 0 " + p[1] + ";");
            y.dinner(3);
            DUE.judged(y, 20, judged, 16, 19, 18);
            DUE.is(p[0] + " and " + p[1] + " at 18", y.least(20, -1), judged == 0 ? 0 : NONE);
        }
    }

    /** One dish's oven so many minutes ahead of the other's, the dishes in both orders. */
    private static void heatsOfTwoDishesBetween() {
        DUE.of("from MINUTE to MINUTE it grows by WARMS at most, falls by COOLS at most");
        for (int apart = 1; apart <= 3; apart++) {
            for (int by = 1; by <= 3; by++) {
                int moved = by * apart;
                twoDishes(by, 9, apart, "0 0", moved + " " + moved, true);
                if (moved < 9) twoDishes(by, 9, apart, "0 0", moved + 1 + " 9", false);
                twoDishes(9, by, apart, "9 9", "0 " + (9 - moved), true);
                if (moved < 9) twoDishes(9, by, apart, "9 9", "0 " + (8 - moved), false);
            }
        }
    }

    private static void twoDishes(int warms, int cools, int apart, String first, String second, boolean can) {
        String kitchen = "kitchen 0 0 1 " + warms + " " + cools + " 1 0;";
        String ahead = "dish 0 0 0;oven 2 0 0 " + first + ";rest " + (apart + 1) + " 0;";
        String behind = "dish 0 0 0;oven 2 0 0 " + second + ";";
        // The first in 20 and 21, the second so many minutes behind 21.
        int at = 21 + apart;
        HotAtSeven x = DUE.with(kitchen + ahead + behind);
        x.dinner(3);
        DUE.judged(x, at + 2, can ? 0 : 1004 + 10 * at, 20, 22, at);
        DUE.is(first + " then " + second + " in " + apart, x.least(at + 2, -1), can ? 0 : NONE);
        HotAtSeven y = DUE.with(kitchen + behind + ahead);
        y.dinner(3);
        DUE.judged(y, at + 2, can ? 0 : 1004 + 10 * at, at, 20, 22);
        DUE.is(first + " then " + second + " in " + apart + ", told last", y.least(at + 2, -1), can ? 0 : NONE);
    }

    private static void heatNoLessThanNought() {
        DUE.of("The oven has each MINUTE a HEAT 0 to 9");
        HotAtSeven x = DUE.with("kitchen 0 0 1 3 9 1 0;dish 0 0 0;oven 1 0 0 2 2;rest 5 0;");
        int[] due = {0, 0, 0, 0, 2, 0, 0};
        for (int m = 0; m < due.length; m++) DUE.is("heat " + m, x.heat(10, m), due[m]);
        DUE.is("heat 59", x.heat(10, 59), 0);
    }

    private static void noStepAheadOfNought() {
        DUE.of("No STEP begins ahead of MINUTE 0.");
        HotAtSeven x = DUE.with("kitchen 0 0 0 0 0 1 0;dish 2 0 0;rest 3 1;rest 2 1;rest 1 0;");
        DUE.begins(x, 6, 0, 3, 5);
        DUE.least(x, 6, 0, 0);
        DUE.least(x, 5, NONE);
        DUE.is("earliest", x.earliest(), 6);
        // A wait that is needed, from minute 0 on and from one ahead of it.
        HotAtSeven y = DUE.with("kitchen 0 0 0 0 0 1 0;away 2 2;dish 0 0 0;hand 2 1;rest 1 0;");
        DUE.least(y, 4, 1, 1);
        DUE.begins(y, 4, 0, 3);
        DUE.least(y, 3, 0, 0);
        HotAtSeven z = DUE.with("kitchen 0 0 0 0 0 1 0;away 1 1;dish 0 0 0;hand 2 1;rest 1 0;");
        DUE.least(z, 3, NONE);
        DUE.least(z, 4, NONE);
        DUE.least(z, 5, 0, 0);
    }

    private static void earlyToKeep() {
        DUE.of("EARLY (0 to KEEP): how long ahead of T it is done");
        // The hand is away in the last minutes, so it must be done so much earlier.
        for (int keep = 0; keep <= 2; keep++) {
            for (int early = 0; early <= 3; early++) {
                String away = early > 0 ? "away " + (20 - early) + " 19;" : "";
                HotAtSeven x = DUE.with("kitchen 0 0 0 0 0 1 0;" + away + "dish " + keep + " 4 0;hand 1 0;");
                DUE.is("keep " + keep + ", early " + early, x.least(20, -1), early <= keep ? 4 * early : NONE);
                DUE.is("its choice", x.least(20, 0), early <= keep ? early : NONE);
                DUE.is("begins", x.begins(20, 0), early <= keep ? 19 - early : NONE);
            }
        }
    }

    private static void waitsToWait() {
        DUE.of("for each STEP but the last one how long (0 to its WAIT) it waits behind it till the next one begins");
        for (int wait = 0; wait <= 1; wait++) {
            for (int waits = 0; waits <= 2; waits++) {
                String away = waits > 0 ? "away " + (18 - waits + 1) + " 18;" : "";
                // The hand's one minute is so many minutes ahead of the rest; the wait of the rest is of no use.
                HotAtSeven x = DUE.with("kitchen 0 0 0 0 0 1 0;" + away + "dish 0 0 0;hand 1 " + wait + ";rest 1 1;");
                DUE.is("wait " + wait + ", " + waits, x.least(20, -1), waits <= wait ? waits : NONE);
                DUE.is("begins", x.begins(20, 0), waits <= wait ? 18 - waits : NONE);
            }
        }
    }

    private static void choiceNumbers() {
        DUE.of("CHOICES are numbered: EARLY, and (KEEP and 1) times the wait behind its first STEP, and (KEEP and 1) times (its WAIT and 1)"
            + " times that behind its second.");
        for (int keep = 0; keep <= 2; keep++)
            for (int first = 0; first <= 1; first++)
                for (int second = 0; second <= 1; second++) forced(keep, first, second);
    }

    /** Three hands of a minute each, and a hand there in just those minutes that one choice wants. */
    private static void forced(int keep, int firstWait, int secondWait) {
        for (int early = 0; early <= keep; early++) {
            for (int first = 0; first <= firstWait; first++) {
                for (int second = 0; second <= secondWait; second++) {
                    int c = 20 - early - 1;
                    int b = c - second - 1;
                    int a = b - first - 1;
                    StringBuilder text = new StringBuilder("kitchen 0 0 0 0 0 1 0;away 0 " + (a - 1) + ";");
                    if (first > 0) text.append("away " + (a + 1) + " " + (b - 1) + ";");
                    if (second > 0) text.append("away " + (b + 1) + " " + (c - 1) + ";");
                    text.append("away " + (c + 1) + " 59;dish " + keep + " 5 0;hand 1 " + firstWait + ";hand 1 " + secondWait + ";hand 1 1;");
                    HotAtSeven x = DUE.with(text.toString());
                    int number = early + (keep + 1) * first + (keep + 1) * (firstWait + 1) * second;
                    DUE.least(x, 20, early * 5 + first + second, number);
                    DUE.begins(x, 20, a, b, c);
                }
            }
        }
    }

    private static void costs() {
        DUE.of("COST: of each DISH EARLY times COLD; all waits, added; and LOSS of each 'keep' times its LONG.");
        HotAtSeven most = DUE.with("kitchen 0 0 0 0 0 1 0;dish 0 0 0;keep 30 0 9;keep 30 0 9;dish 0 0 0;keep 1 0 0;dish 0 0 0;keep 1 0 1;keep 2 0 3;keep 4 0 5;");
        DUE.is("most", most.least(60, -1), 540);
        most.dinner(2);
        DUE.is("least", most.least(60, -1), 0);
        most.dinner(4);
        DUE.is("each", most.least(60, -1), 1 + 6 + 20);
        most.dinner(7);
        DUE.is("all", most.least(60, -1), 567);
        HotAtSeven cold = DUE.with("kitchen 0 0 0 0 0 1 0;away 18 19;" + "dish 2 9 0;hand 1 1;rest 1 0;".repeat(4));
        cold.dinner(1);
        // The hand is there by 17: the rest behind it ends at 19, or waits and ends at 20.
        DUE.is("a wait is less than a cold dish", cold.least(20, -1), 1);
        HotAtSeven early = DUE.with("kitchen 0 0 0 0 0 3 0;away 18 19;away 18 19;away 18 19;" + "dish 2 9 0;hand 1 0;".repeat(3));
        early.dinner(7);
        DUE.is("EARLY times COLD of each", early.least(20, -1), 54);
    }

    private static void allMinutes() {
        DUE.of("2 MINUTES 0 .. 59. THE DINNER: a set of DISHES (1 to 4), to be done at a minute T (1 to 60: ahead of MINUTE T).");
        HotAtSeven x = DUE.with("kitchen 0 0 0 0 0 1 0;dish 0 0 0;rest 1 0;dish 0 0 0;rest 30 0;rest 30 0;");
        DUE.is("by 1", x.begins(1, 0), 0);
        DUE.is("by 60", x.begins(60, 0), 59);
        DUE.is("by 0", x.begins(0, 0), HotAtSeven.BAD);
        DUE.is("by 61", x.begins(61, 0), HotAtSeven.BAD);
        x.dinner(2);
        DUE.begins(x, 60, 0, 30);
        DUE.begins(x, 59);
    }
}
