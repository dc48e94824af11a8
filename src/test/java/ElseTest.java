/** Promises 21 to 26: dinners, more, mend, slack, bears, mind. */
public final class ElseTest {
    private static final Due DUE = new Due("ElseTest");
    private static final int NONE = HotAtSeven.NONE;

    public static void main(String[] args) {
        dinners();
        more();
        mend();
        mendKeepsWhatBegan();
        mendMayBeginLater();
        slackAndBears();
        mind();
        DUE.end();
    }

    private static void dinners(HotAtSeven x, int h, int t, int many, int greatest) {
        DUE.is("dinners " + h + " by " + t, x.dinners(h, t, 0), many);
        DUE.is("greatest " + h + " by " + t, x.dinners(h, t, 1), greatest);
    }

    private static void dinners() {
        HotAtSeven x = DUE.with("kitchen 0 1 0 0 0 1 0;away 30 30;dish 0 0 0;hand 2 0;dish 0 0 0;hand 2 0;dish 0 0 0;ring 1 0 2 1;");
        dinners(x, 1, 10, 3, 1);
        dinners(x, 2, 10, 6, 3);
        dinners(x, 3, 10, 7, 7);
        dinners(x, 3, 1, 1, 4);
        dinners(x, 1, 31, 0, NONE);
        dinners(x, 2, 31, 3, 1);
        x.out(9);
        dinners(x, 3, 10, 3, 3);
        dinners(x, 3, 9, 7, 7);
        x.out(60);
        dinners(x, 3, 10, 7, 7);
        DUE.is("hands as told", x.gives(0, 3), 1);
        DUE.is("the dinner stays", x.count(3), 1);
        x.dinner(3);
        DUE.is("hands as told", x.least(10, -1), NONE);
        DUE.is("h 0", x.dinners(0, 10, 0), HotAtSeven.BAD);
        DUE.is("h 4", x.dinners(4, 10, 0), HotAtSeven.BAD);
        DUE.is("t 61", x.dinners(1, 61, 0), HotAtSeven.BAD);
        DUE.is("what 2", x.dinners(1, 1, 2), HotAtSeven.BAD);
        DUE.is("what -1", x.dinners(1, 1, -1), HotAtSeven.BAD);
        StringBuilder eight = new StringBuilder("kitchen 0 0 0 0 0 1 0;");
        for (int i = 0; i < 8; i++) eight.append(i == 2 ? "dish 0 0 0;rest 9 0;" : "dish 0 0 0;rest 3 0;");
        HotAtSeven y = DUE.with(eight.toString());
        dinners(y, 1, 9, 162, 15);
        dinners(y, 1, 8, 98, 27);
        dinners(y, 1, 2, 0, NONE);
    }

    private static void more() {
        HotAtSeven x = DUE.with("kitchen 0 0 0 0 0 2 0;away 20 20;dish 0 0 0;hand 2 0;dish 0 0 0;hand 2 0;dish 0 0 0;hand 1 0;dish 0 0 0;rest 1 0;"
            + "dish 0 0 0;rest 9 0;");
        DUE.is("beside 0", x.more(10), 0b11110);
        DUE.is("by 8", x.more(8), 0b01110);
        DUE.is("by 1: not itself", x.more(1), 0);
        DUE.is("away", x.more(21), 0b11000);
        x.dinner(0b11);
        DUE.is("beside 0, 1", x.more(10), 0b11000);
        x.dinner(0b11011);
        DUE.is("four", x.more(10), 0);
        x.dinner(0b01011);
        DUE.is("beside three", x.more(10), 0b10000);
        DUE.is("the dinner stays", x.count(3), 3);
        DUE.is("t 0", x.more(0), HotAtSeven.BAD);
    }

    private static void mend() {
        HotAtSeven x = DUE.with("kitchen 0 2 0 0 0 1 0;dish 2 3 0;ring 1 0 0 1;dish 2 1 0;ring 1 0 0 0;");
        x.dinner(3);
        DUE.is("ahead", x.least(20, -1), 0);
        DUE.is("mend 0", x.mend(20, 0), 1);
        DUE.is("mend 18", x.mend(20, 18), 1);
        DUE.is("mend 19", x.mend(20, 19), NONE);
        DUE.is("mend 20", x.mend(20, 20), 0);
        DUE.is("mend 59", x.mend(20, 59), 0);
        DUE.is("no plan ahead", DUE.with("kitchen 0 2 0 0 0 1 0;dish 0 0 0;hand 9 0;").mend(5, 0), NONE);
        DUE.is("nothing is out", x.count(7), 60);
        DUE.is("LEAST stays", x.least(20, -1), 0);
        DUE.is("its choices", x.least(20, 1), 0);
        DUE.is("minute 60", x.mend(20, 60), HotAtSeven.BAD);
        DUE.is("minute -1", x.mend(20, -1), HotAtSeven.BAD);
        DUE.is("t 61", x.mend(61, 0), HotAtSeven.BAD);
        x.out(59);
        DUE.is("one is out", x.mend(20, 0), HotAtSeven.STATE);
        DUE.is("bad ahead of state", x.mend(0, 0), HotAtSeven.BAD);
        x.out(60);
        DUE.is("not any more", x.mend(20, 0), 1);
        DUE.is("no big ring", DUE.with("kitchen 3 0 0 0 0 1 0;dish 2 3 0;rest 1 0;").mend(20, 0), HotAtSeven.STATE);
    }

    /** Dish 0: a hand at 15, then the ring at 16 or 17; dish 1: the ring at 17. With one ring dish 0 must not wait. */
    private static void mendKeepsWhatBegan() {
        HotAtSeven x = DUE.with("kitchen 0 2 0 0 0 1 0;away 15 15;dish 1 2 0;hand 1 1;ring 1 1 0 1;rest 2 0;dish 0 0 0;ring 1 0 0 1;rest 2 0;");
        x.dinner(3);
        // By 20: hand 16, ring 17, rest 18; ring 17, rest 18.
        int[] begins = {16, 17, 18, 17, 18};
        for (int k = 0; k < 5; k++) DUE.is("begins " + k, x.begins(20, k), begins[k]);
        // The hand began at 16; the ring at 18 cannot be, for the rest must begin at 18: done at 20, or 19.
        DUE.is("hand has begun", x.mend(20, 17), NONE);
        DUE.is("all have begun", x.mend(20, 18), 0);
        // Ahead of it the hand may begin earlier, but at 15 it is away: 14, then the ring at 16, by two waits.
        DUE.is("none has begun", x.mend(20, 14), 2);
        DUE.is("not ahead of 15", x.mend(20, 15), NONE);
        DUE.is("not ahead of 16", x.mend(20, 16), NONE);
    }

    /** Dishes 0 and 1 want one hand, 0 goes first as it costs less; at 8 dish 2 needs the one ring that is left. */
    private static void mendMayBeginLater() {
        HotAtSeven x = DUE.with("kitchen 0 2 0 0 0 1 0;dish 1 1 0;ring 1 0 2 1;dish 1 2 0;hand 1 0;dish 0 0 0;ring 1 0 0 1;rest 1 0;");
        x.dinner(7);
        DUE.is("least", x.least(10, -1), 1);
        DUE.is("dish 0", x.begins(10, 0), 8);
        DUE.is("dish 1", x.begins(10, 1), 9);
        DUE.is("what begins at 8 may begin later", x.mend(10, 8), 2);
        DUE.is("what began at 8 may not", x.mend(10, 9), 1);
        DUE.is("from 0 on", x.mend(10, 0), 2);
    }

    private static void slackAndBears() {
        HotAtSeven x = DUE.with("kitchen 0 0 0 0 0 1 0;dish 1 0 0;hand 1 1;rest 3 0;dish 0 0 0;hand 1 0;rest 3 0;");
        x.dinner(3);
        int[] begins = {5, 6, 6, 7};
        int[] slack = {0, 1, 0, 0};
        int[] bears = {0, 1, 0, 0};
        DUE.is("cost", x.least(10, -1), 0);
        for (int k = 0; k < 4; k++) {
            DUE.is("begins " + k, x.begins(10, k), begins[k]);
            DUE.is("slack " + k, x.slack(10, k), slack[k]);
            DUE.is("bears " + k, x.bears(10, k, 1), bears[k]);
            DUE.is("bears 2 " + k, x.bears(10, k, 2), 0);
            DUE.is("begins again " + k, x.begins(10, k), begins[k]);
        }
        DUE.is("slack 4", x.slack(10, 4), NONE);
        DUE.is("bears 4", x.bears(10, 4, 9), NONE);
        DUE.is("slack, no plan", x.slack(4, 0), NONE);
        DUE.is("bears, no plan", x.bears(4, 0, 9), NONE);
        DUE.is("slack -1", x.slack(10, -1), HotAtSeven.BAD);
        DUE.is("slack 61", x.slack(61, 0), HotAtSeven.BAD);
        DUE.is("bears -1", x.bears(10, -1, 1), HotAtSeven.BAD);
        DUE.is("bears 0", x.bears(10, 0, 0), HotAtSeven.BAD);
        DUE.is("bears 10", x.bears(10, 0, 10), HotAtSeven.BAD);
        DUE.is("bears by 0", x.bears(0, 0, 1), HotAtSeven.BAD);
        // A wait that the next step's want forces: the step ahead may begin later, or take longer.
        HotAtSeven y = DUE.with("kitchen 0 0 0 0 0 1 0;away 7 7;dish 2 9 0;rest 3 1;hand 1 1;rest 2 0;dish 0 9 0;rest 1 1;hand 1 0;rest 1 0;");
        y.dinner(1);
        DUE.is("waits", y.least(10, -1), 1);
        DUE.is("rest", y.begins(10, 0), 3);
        DUE.is("slack of the rest", y.slack(10, 0), 0);
        DUE.is("bears of the rest", y.bears(10, 0, 1), 0);
        HotAtSeven z = DUE.with("kitchen 1 0 0 0 0 1 0;away 5 5;dish 0 9 0;hand 2 1;rest 2 0;dish 0 9 0;ring 1 1 0 0;rest 2 0;dish 0 0 0;ring 1 0 0 0;rest 2 0;");
        DUE.is("the hand begins earlier", z.begins(8, 0), 3);
        DUE.is("it has no more", z.bears(8, 0, 1), 0);
        z.dinner(0b110);
        DUE.is("one waits", z.least(8, -1), 1);
        DUE.is("its ring", z.begins(8, 0), 4);
        DUE.is("taken", z.slack(8, 0), 0);
        DUE.is("taken", z.bears(8, 0, 1), 0);
        // A hand at the beginning alone: the ring may take longer, into the wait behind it.
        HotAtSeven v = DUE.with("kitchen 1 0 0 0 0 1 0;away 5 5;dish 0 9 0;ring 2 1 1 0;rest 2 0;");
        DUE.is("ring", v.begins(9, 0), 4);
        DUE.is("ring bears", v.bears(9, 0, 1), 1);
        DUE.is("ring bears no more", v.bears(9, 0, 2), 0);
        DUE.is("ring slack", v.slack(9, 0), 0);
        // Done one minute early, the last of three steps may begin a minute later.
        HotAtSeven w = DUE.with("kitchen 0 0 0 0 0 1 0;dish 2 0 0;hand 1 1;rest 3 1;rest 1 0;dish 0 0 0;hand 1 0;rest 4 0;");
        w.dinner(3);
        DUE.is("early", w.least(10, 0), 1);
        DUE.is("last", w.slack(10, 2), 1);
        DUE.is("middle", w.slack(10, 1), 0);
        DUE.is("last bears", w.bears(10, 2, 1), 1);
    }

    private static void mind() {
        HotAtSeven x = DUE.with("kitchen 0 0 0 0 0 1 0;dish 0 0 0;rest 1 0;dish 1 0 0;hand 1 1;rest 3 0;dish 0 0 0;hand 1 0;rest 3 0;");
        x.dinner(0b110);
        int[] due = {0, 0, 0, 0, 0, 0, 1, 3, NONE, NONE};
        for (int m = 0; m < due.length; m++) DUE.is("mind " + m, x.mind(10, m), due[m]);
        DUE.is("mind 59", x.mind(10, 59), NONE);
        DUE.is("no plan", x.mind(3, 0), NONE);
        DUE.is("minute 60", x.mind(10, 60), HotAtSeven.BAD);
        DUE.is("minute -1", x.mind(10, -1), HotAtSeven.BAD);
        DUE.is("by 0", x.mind(0, 0), HotAtSeven.BAD);
        DUE.is("the last minute", DUE.with("kitchen 0 0 0 0 0 1 0;dish 0 0 0;rest 1 0;").mind(60, 59), 0);
    }
}
