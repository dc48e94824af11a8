/** Promises 14 to 20: judge, least, begins, seven, earliest, heat, wanted. */
public final class PlansTest {
    private static final Due DUE = new Due("PlansTest");
    private static final int NONE = HotAtSeven.NONE;
    private static final String MANY = "kitchen 1 1 1 2 1 1 1;dish 0 0 0;ring 4 0 0 1;dish 0 0 0;ring 4 0 0 1;"
        + "dish 0 0 0;ring 4 0 0 0;dish 0 0 0;ring 4 0 0 0;dish 0 0 0;oven 4 0 0 5 9;dish 0 0 0;oven 2 0 0 0 9;"
        + "dish 0 0 1;hand 4 0;dish 0 0 1;hand 2 0;";

    public static void main(String[] args) {
        judgedWords();
        judgedOrder();
        judgedStir();
        judgedParts();
        judgedRow();
        ties();
        waits();
        losses();
        pans();
        seven();
        earliest();
        heats();
        heatsBetween();
        wanted();
        lastMinute();
        DUE.end();
    }

    private static void judgedWords() {
        HotAtSeven x = DUE.with(MANY);
        x.dinner(0b11);
        DUE.judged(x, 10, 1061, 6, 6);
        x.dinner(0b1100);
        DUE.judged(x, 10, 0, 6, 6);
        x.dinner(0b1101);
        DUE.judged(x, 10, 1062, 6, 6, 6);
        x.dinner(0b111);
        DUE.judged(x, 10, 1061, 6, 6, 6);
        x.dinner(0b110000);
        DUE.judged(x, 10, 1083, 6, 8);
        x.dinner(0b10000);
        DUE.judged(x, 4, 1004, 0);
        DUE.judged(x, 5, 1014, 1);
        DUE.judged(x, 6, 0, 2);
        x.dinner(0b11000000);
        DUE.judged(x, 10, 1085, 6, 8);
        x.dinner(0b10000011);
        DUE.judged(x, 10, 1061, 6, 6, 8);
        x.dinner(0b1100);
        x.out(8);
        DUE.judged(x, 10, 1082, 6, 6);
        x.dinner(1);
        DUE.judged(x, 10, 1081, 6);
        DUE.judged(x, 8, 0, 4);
        DUE.judged(x, 9, 1081, 5);
        HotAtSeven y = DUE.with("kitchen 0 0 0 0 0 2 1;away 8 8;away 9 9;dish 0 0 1;hand 4 0;dish 0 0 1;hand 2 0;");
        y.dinner(3);
        DUE.judged(y, 10, 1085, 6, 8);
        DUE.judged(y, 8, 1066, 4, 6);
        y.dinner(1);
        DUE.judged(y, 10, 0, 6);
    }

    private static void judgedOrder() {
        HotAtSeven x = DUE.with("kitchen 0 0 0 0 0 1 9;dish 1 0 0;rest 3 1;rest 2 0;dish 0 0 0;rest 4 0;");
        x.dinner(3);
        DUE.judged(x, 20, 0, 15, 18, 16);
        DUE.judged(x, 20, 0, 14, 17, 16);
        DUE.judged(x, 20, 0, 14, 18, 16);
        DUE.judged(x, 20, 13, 13, 16, 16);
        DUE.judged(x, 20, 12, 13, 18, 16);
        DUE.judged(x, 20, 12, 16, 18, 16);
        DUE.judged(x, 20, 13, 16, 19, 16);
        DUE.judged(x, 20, 23, 15, 18, 15);
        DUE.judged(x, 20, 23, 15, 18, 17);
        DUE.judged(x, 20, 13, 16, 19, 15);
        DUE.judged(x, 20, 12, 0, 18, 99 - 59);
        DUE.judged(x, 20, 21, 0, 18, 57);
        DUE.judged(x, 20, 21, 16, 18, -1);
        DUE.judged(x, 20, 1, -1, 59, -1);
        DUE.judged(x, 20, 11, 0, 59, -1);
        DUE.judged(x, 20, 1, Integer.MAX_VALUE, 18, 16);
        DUE.judged(x, 20, 1, Integer.MIN_VALUE, 18, 16);
        DUE.judged(x, 60, 0, 55, 58, 56);
        DUE.judged(x, 60, 11, 55, 59, 56);
        DUE.judged(x, 60, 1, 58, 58, 56);
        // Done at T, or within KEEP ahead of it.
        x.dinner(1);
        DUE.judged(x, 5, 0, 0, 3);
        DUE.judged(x, 6, 0, 0, 3);
        DUE.judged(x, 7, 13, 0, 3);
        DUE.judged(x, 4, 13, 0, 3);
    }

    private static void judgedStir() {
        HotAtSeven x = DUE.with("kitchen 3 0 3 9 9 1 9;away 7 7;dish 0 0 0;ring 3 0 0 0;dish 0 0 0;ring 3 0 1 0;"
            + "dish 0 0 0;ring 3 0 2 0;dish 0 0 0;oven 3 0 1 0 9;dish 0 0 0;oven 3 0 2 0 9;");
        int[][] due = {{0, 0, 0}, {0, 0, 1075}, {1075, 1075, 1075}, {0, 0, 1075}, {1075, 1075, 1075}};
        for (int d = 0; d < 5; d++) {
            x.dinner(1 << d);
            for (int i = 0; i < 3; i++) DUE.judged(x, 8 + i, due[d][i], 5 + i);
        }
    }

    /** All steps of a dish want what they want, not only the last one. */
    private static void judgedParts() {
        HotAtSeven x = DUE.with("kitchen 1 1 1 9 9 1 1;dish 0 0 0;ring 2 0 0 1;rest 1 0;ring 2 0 0 1;dish 0 0 0;ring 5 0 0 1;"
            + "dish 0 0 0;oven 2 0 0 1 2;rest 1 0;oven 2 0 0 3 4;dish 0 0 0;oven 5 0 0 0 9;dish 0 0 0;hand 2 0;rest 1 0;hand 2 0;dish 0 0 0;hand 5 0;");
        x.dinner(0b11);
        DUE.judged(x, 20, 1151, 15, 17, 18, 15);
        x.out(18);
        x.dinner(1);
        DUE.judged(x, 20, 1181, 15, 17, 18);
        x.out(60);
        x.dinner(0b1100);
        DUE.judged(x, 20, 1153, 15, 17, 18, 15);
        x.dinner(0b110000);
        DUE.judged(x, 20, 1155, 15, 17, 18, 15);
        x.dinner(0b110);
        DUE.judged(x, 20, 0, 15, 15, 17, 18);
    }

    private static void judgedRow() {
        HotAtSeven x = DUE.with("kitchen 0 0 0 0 0 1 9;dish 0 0 0;rest 3 1;rest 2 0;");
        x.sheet(0, 0, 4);
        x.set(0, 2, 15);
        x.set(0, 3, 18);
        DUE.is("from 2 on", x.judge(0, 2, 20), 0);
        DUE.is("from 3 on", x.judge(0, 3, 20), -1000012);
        DUE.is("from -1 on", x.judge(0, -1, 20), -1000012);
        DUE.is("from afar", x.judge(0, Integer.MAX_VALUE, 20), -1000012);
        DUE.is("missing", x.judge(1, -1, 20), -1000011);
        DUE.is("sheet 8", x.judge(8, 0, 20), HotAtSeven.BAD);
        DUE.is("by 0", x.judge(0, 0, 0), HotAtSeven.BAD);
        DUE.is("by 61", x.judge(0, 0, 61), HotAtSeven.BAD);
    }

    private static void ties() {
        HotAtSeven x = DUE.with("kitchen 0 0 0 0 0 1 0;dish 1 0 0;hand 1 0;dish 1 0 0;hand 1 0;dish 1 3 0;hand 1 0;dish 2 1 0;hand 1 0;");
        x.dinner(0b11);
        DUE.least(x, 10, 0, 0, 1);
        DUE.begins(x, 10, 9, 8);
        x.dinner(0b110);
        DUE.least(x, 10, 0, 1, 0);
        DUE.begins(x, 10, 8, 9);
        x.dinner(0b1100);
        DUE.least(x, 10, 1, 0, 1);
        x.dinner(0b1110);
        DUE.least(x, 10, 2, 1, 0, 2);
        DUE.begins(x, 10, 8, 9, 7);
        x.dinner(0b1111);
        DUE.least(x, 10, NONE);
        DUE.begins(x, 10);
        DUE.least(x, 2, NONE);
        x.dinner(0b110);
        DUE.least(x, 1, NONE);
        DUE.least(x, 2, 0, 1, 0);
    }

    private static void waits() {
        HotAtSeven x = DUE.with("kitchen 0 0 0 0 0 1 0;dish 0 0 0;hand 1 1;rest 2 0;dish 0 0 0;hand 1 0;rest 2 0;");
        x.dinner(3);
        DUE.least(x, 10, 1, 1, 0);
        DUE.begins(x, 10, 6, 8, 7, 8);
        // The first of two waits that cost the same, and the second if only that serves.
        HotAtSeven y = DUE.with("kitchen 1 0 0 0 0 1 0;away 17 17;dish 1 9 0;hand 1 1;ring 1 1 0 0;hand 1 0;dish 0 0 0;ring 1 0 0 0;rest 1 0;");
        DUE.least(y, 20, 1, 2);
        DUE.begins(y, 20, 16, 18, 19);
        y.dinner(3);
        DUE.least(y, 20, 1, 4, 0);
        DUE.begins(y, 20, 16, 17, 19, 18, 19);
    }

    private static void losses() {
        HotAtSeven x = DUE.with("kitchen 0 0 0 0 0 1 0;away 9 9;dish 2 4 0;keep 5 1 3;hand 1 0;keep 2 0 9;");
        DUE.least(x, 11, 5 * 3 + 2 * 9, 0);
        DUE.least(x, 12, 5 * 3 + 2 * 9 + 4, 1);
        DUE.least(x, 7, NONE);
        DUE.least(x, 8, 33, 0);
    }

    private static void pans() {
        String dish = "dish 2 1 1;rest 2 0;";
        HotAtSeven x = DUE.with("kitchen 0 0 0 0 0 1 1;" + dish + dish + "dish 0 0 0;rest 2 0;");
        x.dinner(0b11);
        DUE.least(x, 10, 2, 0, 2);
        x.dinner(0b101);
        DUE.least(x, 10, 0, 0, 0);
        HotAtSeven none = DUE.with("kitchen 0 0 0 0 0 1 0;" + dish);
        DUE.least(none, 10, NONE);
        // The pan is held through a wait, and no longer than the last step.
        HotAtSeven wait = DUE.with("kitchen 0 0 0 0 0 1 1;away 7 7;dish 0 0 1;hand 1 1;rest 2 0;dish 2 0 1;rest 1 0;rest 1 0;");
        wait.dinner(3);
        DUE.least(wait, 10, NONE);
        DUE.judged(wait, 10, 1066, 6, 8, 6, 7);
    }

    private static void seven() {
        HotAtSeven x = DUE.with("kitchen 0 0 0 0 0 1 0;away 30 30;dish 1 0 0;hand 1 0;dish 1 0 0;hand 1 1;rest 1 0;dish 0 0 0;hand 1 0;rest 1 0;");
        DUE.is("alone", x.seven(10), 1);
        DUE.is("away", x.seven(31), 0);
        DUE.is("with waits", DUE.with("kitchen 0 0 0 0 0 1 0;away 8 8;dish 0 0 0;hand 1 1;rest 1 0;").seven(10), 1);
        x.dinner(0b110);
        DUE.is("one waits", x.seven(10), 1);
        x.dinner(0b101);
        DUE.is("two at two minutes", x.seven(10), 1);
        x.dinner(0b111);
        DUE.is("three", x.seven(10), 1);
        DUE.is("by 2", x.seven(2), 0);
        DUE.is("by 0", x.seven(0), HotAtSeven.BAD);
        DUE.is("by 61", x.seven(61), HotAtSeven.BAD);
        HotAtSeven y = DUE.with("kitchen 0 0 0 0 0 1 0;dish 1 0 0;hand 1 0;dish 1 0 0;hand 1 0;");
        y.dinner(3);
        DUE.is("a plan, but not so", y.seven(10), 0);
        DUE.is("a plan", y.least(10, -1), 0);
    }

    private static void earliest() {
        HotAtSeven x = DUE.with("kitchen 0 1 1 1 1 1 0;away 3 50;dish 0 0 0;hand 5 0;dish 0 0 0;oven 3 0 0 4 9;dish 0 0 0;ring 30 0 0 1;"
            + "dish 0 0 0;rest 30 0;rest 30 0;rest 1 0;dish 0 0 0;rest 30 0;rest 30 0;dish 2 0 0;rest 9 0;dish 0 0 0;ring 1 0 0 1;");
        int[] due = {56, 6, 30, NONE, 60, 9, 1};
        for (int d = 0; d < 7; d++) {
            x.dinner(1 << d);
            DUE.is("earliest of " + d, x.earliest(), due[d]);
        }
        x.dinner(0b1000001);
        DUE.is("of two", x.earliest(), 56);
        x.dinner(0b1000100);
        DUE.is("one ring", x.earliest(), NONE);
        x.dinner(0b1000000);
        x.out(0);
        DUE.is("it is out", x.earliest(), NONE);
        x.out(1);
        DUE.is("it is out later", x.earliest(), 1);
    }

    private static void heats() {
        HotAtSeven x = DUE.with(MANY);
        x.dinner(0b10000);
        int[] due = {0, 0, 0, 0, 1, 3, 5, 5, 5, 5, 4, 3, 2, 1, 0, 0};
        for (int m = 0; m < due.length; m++) DUE.is("heat " + m, x.heat(10, m), due[m]);
        DUE.is("heat 59", x.heat(10, 59), 0);
        DUE.is("no plan", x.heat(5, 0), NONE);
        DUE.is("minute -1", x.heat(10, -1), HotAtSeven.BAD);
        DUE.is("minute 60", x.heat(10, 60), HotAtSeven.BAD);
        DUE.is("by 61", x.heat(61, 0), HotAtSeven.BAD);
        HotAtSeven y = DUE.with("kitchen 0 0 1 9 0 1 0;dish 0 0 0;oven 2 0 0 3 4;");
        int[] stays = {0, 0, 0, 3, 3, 3, 3};
        for (int m = 0; m < stays.length; m++) DUE.is("stays " + m, y.heat(5, m), stays[m]);
        DUE.is("stays", y.heat(5, 59), 3);
        HotAtSeven cold = DUE.with("kitchen 0 0 1 0 9 1 0;dish 0 0 0;oven 2 0 0 0 4;dish 0 0 0;oven 2 0 0 1 4;");
        DUE.is("cold", cold.heat(60, 59), 0);
        cold.dinner(2);
        DUE.is("never", cold.earliest(), NONE);
    }

    private static void heatsBetween() {
        HotAtSeven x = DUE.with("kitchen 0 0 2 5 1 1 0;dish 0 0 0;oven 2 0 0 0 2;oven 2 0 0 6 9;dish 0 0 0;oven 1 0 0 4 9;rest 4 0;");
        int[] due = {0, 0, 0, 0, 0, 0, 0, 1, 6, 6, 5};
        for (int m = 0; m < due.length; m++) DUE.is("between " + m, x.heat(10, m), due[m]);
        // 4 at minute 5 cannot fall to 2 by minute 6, but by minute 7, one wait later.
        x.dinner(3);
        DUE.is("too hot", x.least(10, -1), NONE);
        DUE.is("never", x.earliest(), NONE);
        HotAtSeven y = DUE.with("kitchen 0 0 1 9 2 1 0;dish 0 0 0;oven 2 1 0 9 9;oven 2 0 0 0 5;");
        DUE.is("cools in a wait", y.least(20, -1), 1);
        DUE.is("its choice", y.least(20, 0), 1);
        int[] cools = {0, 9, 9, 7, 5, 3, 1, 0};
        for (int m = 0; m < cools.length; m++) DUE.is("cools " + m, y.heat(20, 14 + m), cools[m]);
        // Two dishes in one oven at once: both wants at once.
        HotAtSeven z = DUE.with("kitchen 0 0 2 9 9 1 0;dish 0 0 0;oven 3 0 0 2 6;dish 2 7 0;oven 1 0 0 5 9;dish 0 0 0;oven 1 0 0 7 9;");
        z.dinner(3);
        DUE.is("both", z.least(20, -1), 0);
        DUE.is("both at 18", z.heat(20, 18), 2);
        DUE.is("both at 19", z.heat(20, 19), 5);
        z.dinner(5);
        DUE.is("not both", z.least(20, -1), NONE);
        DUE.judged(z, 20, 1194, 17, 19);
    }

    private static void wanted() {
        HotAtSeven x = DUE.with("kitchen 1 1 2 9 9 3 2;dish 0 0 1;ring 2 1 1 1;rest 1 0;oven 3 0 2 1 4;dish 0 0 1;ring 4 0 0 0;hand 3 0;");
        x.dinner(3);
        DUE.is("plan", x.least(10, -1), 0);
        int[][] due = {{2, 0, 0, 0, 0}, {3, 0, 1, 0, 1}, {4, 1, 2, 0, 2}, {5, 0, 2, 0, 2}, {6, 0, 1, 0, 2}, {7, 2, 0, 1, 2}, {9, 2, 0, 1, 2}, {10, 0, 0, 0, 0}};
        for (int[] d : due)
            for (int w = 0; w < 4; w++) DUE.is("wanted " + d[0] + " " + w, x.wanted(10, d[0], w), d[w + 1]);
        DUE.is("no plan", x.wanted(5, 0, 0), NONE);
        DUE.is("what 4", x.wanted(10, 0, 4), HotAtSeven.BAD);
        DUE.is("what -1", x.wanted(10, 0, -1), HotAtSeven.BAD);
        DUE.is("minute 60", x.wanted(10, 60, 0), HotAtSeven.BAD);
        DUE.is("by 0", x.wanted(0, 0, 0), HotAtSeven.BAD);
    }

    private static void lastMinute() {
        HotAtSeven x = DUE.with("kitchen 3 3 3 9 9 3 9;dish 0 0 1;oven 30 0 2 9 9;ring 30 0 2 1;");
        DUE.is("earliest", x.earliest(), 60);
        DUE.begins(x, 60, 0, 30);
        DUE.is("heat 0", x.heat(60, 0), 9);
        DUE.is("wanted 59", x.wanted(60, 59, 0), 1);
        DUE.is("pan 59", x.wanted(60, 59, 3), 1);
        DUE.is("by 59", x.least(59, -1), NONE);
        DUE.judged(x, 60, 0, 0, 30);
    }
}
