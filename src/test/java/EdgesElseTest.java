/** Promises 21 to 26 at their boundaries, sentence by sentence: DINNERS, MORE, MEND, SLACK, BEARS, MIND. */
public final class EdgesElseTest {
    private static final Due DUE = new Due("EdgesElseTest");
    private static final int NONE = HotAtSeven.NONE, BAD = HotAtSeven.BAD, STATE = HotAtSeven.STATE;
    private static final int LEAST = Integer.MIN_VALUE, MOST = Integer.MAX_VALUE;
    private static final int[] NO_TIMES = {0, 61, -1, LEAST, MOST};
    private static final int[] NO_MINUTES = {-1, 60, LEAST, MOST};
    private static final String TWELVE = "kitchen 0 1 0 0 0 1 0;" + "dish 0 0 0;rest 1 0;rest 1 0;rest 1 0;".repeat(4);

    public static void main(String[] args) {
        dinnersNumbers();
        dinnersInPlaceOfHands();
        dinnersWithHandsAway();
        dinnersOfFour();
        dinnersGreatest();
        dinnersWithARingOut();
        dinnersOneBehindTheOther();
        moreNumbers();
        moreOfFour();
        moreNotOfTheDinner();
        mendNumbers();
        mendState();
        mendFromItsMinuteOn();
        mendWhatBegan();
        mendWhatBeganLater();
        mendNoOthersAhead();
        mendAskedFirst();
        mendLeastCost();
        mendOfTheFullestBook();
        mendNoPlan();
        slackNumbers();
        slackOfOne();
        slackByWants();
        slackBesideOthers();
        bearsNumbers();
        bearsIntoKeep();
        bearsIntoAWait();
        bearsByWants();
        bearsAtTheEnd();
        mindNumbers();
        mindAtOrBehind();
        mindTheLeast();
        DUE.end();
    }

    // ---- dinners

    private static void dinnersNumbers() {
        DUE.of("DINNERS for h HANDS by T: how many (what = 0), the GREATEST (1; NONE). BAD; STATE: no BOOK.");
        HotAtSeven x = DUE.with(Due.RESTING);
        HotAtSeven y = new HotAtSeven();
        for (int h = 1; h <= 3; h++) {
            for (int t = 1; t <= 60; t += 59) {
                DUE.is("how many", x.dinners(h, t, 0), 1);
                DUE.is("the greatest", x.dinners(h, t, 1), 1);
                DUE.is("no book", y.dinners(h, t, 0), STATE);
            }
        }
        for (int h : new int[] {0, 4, -1, LEAST, MOST}) {
            DUE.is("h " + h, x.dinners(h, 1, 0), BAD);
            DUE.is("no book, h " + h, y.dinners(h, 1, 0), BAD);
        }
        for (int t : NO_TIMES) {
            DUE.is("by " + t, x.dinners(1, t, 0), BAD);
            DUE.is("no book, by " + t, y.dinners(1, t, 0), BAD);
        }
        for (int w : new int[] {-1, 2, LEAST, MOST}) {
            DUE.is("what " + w, x.dinners(1, 1, w), BAD);
            DUE.is("no book, what " + w, y.dinners(1, 1, w), BAD);
        }
    }

    private static void dinners(HotAtSeven x, int h, int t, int many, int greatest) {
        DUE.is("dinners " + h + " by " + t, x.dinners(h, t, 0), many);
        DUE.is("greatest " + h + " by " + t, x.dinners(h, t, 1), greatest);
    }

    private static void dinnersInPlaceOfHands() {
        DUE.of("DINNERS for h HANDS (1 to 3; in place of HANDS as told) by T");
        for (int told = 1; told <= 3; told++) {
            HotAtSeven x = DUE.with("kitchen 0 0 0 0 0 " + told + " 0;" + "dish 0 0 0;hand 2 0;".repeat(4));
            dinners(x, 1, 5, 4, 1);
            dinners(x, 2, 5, 10, 3);
            dinners(x, 3, 5, 14, 7);
            dinners(x, 3, 1, 0, NONE);
            DUE.is("the hands stay as told", x.gives(0, 3), told);
        }
    }

    private static void dinnersWithHandsAway() {
        DUE.of("in place of HANDS as told");
        HotAtSeven x = DUE.with("kitchen 0 0 0 0 0 3 0;away 9 9;away 9 9;" + "dish 0 0 0;hand 1 0;".repeat(4));
        dinners(x, 1, 10, 0, NONE);
        dinners(x, 2, 10, 0, NONE);
        dinners(x, 3, 10, 4, 1);
        dinners(x, 1, 9, 4, 1);
        dinners(x, 2, 11, 10, 3);
    }

    private static void dinnersOfFour() {
        DUE.of("sets of 1 to 4 DISHES that have a PLAN: how many");
        int[] many = {1, 3, 7, 15, 30, 56, 98, 162};
        for (int n = 1; n <= 8; n++) {
            HotAtSeven x = DUE.with("kitchen 0 0 0 0 0 1 0;" + "dish 0 0 0;rest 2 0;".repeat(n));
            dinners(x, 1, 2, many[n - 1], n >= 4 ? 15 : (1 << n) - 1);
            dinners(x, 1, 1, 0, NONE);
        }
    }

    private static void dinnersGreatest() {
        DUE.of("the GREATEST: of most DISHES, of several the least bits");
        String rest = "dish 0 0 0;rest 1 0;", hand = "dish 0 0 0;hand 1 0;", never = "dish 0 0 0;oven 1 0 0 0 0;";
        dinners(DUE.with("kitchen 0 0 0 0 0 1 0;" + never + never), 1, 5, 0, NONE);
        dinners(DUE.with("kitchen 0 0 0 0 0 1 0;" + never.repeat(7) + rest), 1, 5, 1, 128);
        dinners(DUE.with("kitchen 0 0 0 0 0 1 0;" + hand + hand + rest), 1, 5, 5, 0b101);
        dinners(DUE.with("kitchen 0 0 0 0 0 1 0;" + hand.repeat(3)), 1, 5, 3, 0b001);
        dinners(DUE.with("kitchen 0 0 0 0 0 1 0;" + never + rest.repeat(5)), 1, 5, 30, 0b11110);
        dinners(DUE.with("kitchen 0 0 0 0 0 1 0;" + hand.repeat(4) + rest.repeat(4)), 1, 5, 15 + 4 + 4 * (4 + 6 + 4), 0b1110001);
    }

    private static void dinnersWithARingOut() {
        DUE.of("sets of 1 to 4 DISHES that have a PLAN");
        HotAtSeven x = DUE.with("kitchen 0 2 0 0 0 1 0;" + "dish 0 0 0;ring 1 0 0 1;".repeat(2));
        dinners(x, 1, 10, 3, 3);
        x.out(9);
        dinners(x, 1, 10, 2, 1);
        dinners(x, 1, 9, 3, 3);
        x.out(10);
        dinners(x, 1, 10, 3, 3);
    }

    /** Whatever was asked ahead of it, by other hands and times. */
    private static void dinnersOneBehindTheOther() {
        DUE.of("DINNERS for h HANDS (1 to 3; in place of HANDS as told) by T");
        HotAtSeven x = DUE.with("kitchen 0 0 0 0 0 1 0;dish 0 0 0;hand 1 0;dish 0 0 0;hand 1 0;dish 0 0 0;rest 2 0;");
        int[][] asks = {{1, 2}, {2, 1}, {1, 60}, {2, 1}, {3, 1}, {2, 2}, {1, 1}, {3, 60}, {1, 59}, {2, 60}, {1, 2}, {1, 1}, {2, 1}};
        for (int[] a : asks) {
            boolean both = a[0] > 1;
            boolean rest = a[1] > 1;
            int many = (both ? 3 : 2) * (rest ? 2 : 1) + (rest ? 1 : 0);
            dinners(x, a[0], a[1], many, both ? (rest ? 7 : 3) : rest ? 5 : 1);
        }
    }

    // ---- more

    private static void moreNumbers() {
        DUE.of("`int more(int t)`: MORE by T (bits). BAD; STATE: no BOOK.");
        HotAtSeven x = DUE.with("kitchen 0 0 0 0 0 1 0;" + "dish 0 0 0;rest 1 0;".repeat(2));
        HotAtSeven y = new HotAtSeven();
        DUE.is("by 1", x.more(1), 2);
        DUE.is("by 60", x.more(60), 2);
        DUE.is("no book, by 1", y.more(1), STATE);
        DUE.is("no book, by 60", y.more(60), STATE);
        for (int t : NO_TIMES) {
            DUE.is("by " + t, x.more(t), BAD);
            DUE.is("no book, by " + t, y.more(t), BAD);
        }
    }

    private static void moreOfFour() {
        DUE.of("with any one of which beside (4 in all at most) there is a PLAN by T");
        HotAtSeven x = DUE.with("kitchen 0 0 0 0 0 1 0;" + "dish 0 0 0;rest 1 0;".repeat(8));
        int[][] due = {{1, 0xfe}, {0x80, 0x7f}, {0x81, 0x7e}, {7, 0xf8}, {0xe0, 0x1f}, {15, 0}, {0xf0, 0}};
        for (int[] d : due) {
            x.dinner(d[0]);
            DUE.is("beside " + d[0], x.more(5), d[1]);
        }
        DUE.is("the dinner stays", x.count(3), 4);
    }

    private static void moreNotOfTheDinner() {
        DUE.of("MORE: DISHES (bits), not of the DINNER, with any one of which beside");
        HotAtSeven one = DUE.with(Due.RESTING);
        DUE.is("there is no other", one.more(5), 0);
        // Any one of two beside, though not both; by 2 dish 3 is too long; no PLAN of the dinner, no more.
        HotAtSeven x = DUE.with("kitchen 0 0 0 0 0 2 0;" + "dish 0 0 0;hand 1 0;".repeat(3) + "dish 0 0 0;rest 3 0;");
        DUE.is("by 3", x.more(3), 0b1110);
        DUE.is("by 2", x.more(2), 0b0110);
        x.dinner(0b11);
        DUE.is("beside two", x.more(3), 0b1000);
        x.dinner(0b111);
        DUE.is("it has no PLAN itself", x.more(3), 0);
    }

    // ---- mend

    private static void mendNumbers() {
        DUE.of("MEND by T, OUT at a MINUTE (0 to 59): the COST; NONE: also no PLAN ahead. BAD");
        HotAtSeven x = DUE.with("kitchen 0 1 0 0 0 1 0;dish 0 0 0;keep 1 0 3;");
        HotAtSeven y = new HotAtSeven();
        for (int m = 0; m < 60; m += 59) {
            DUE.is("by 1 at " + m, x.mend(1, m), 3);
            DUE.is("by 60 at " + m, x.mend(60, m), 3);
            DUE.is("no book", y.mend(1, m), STATE);
        }
        for (int t : NO_TIMES) {
            DUE.is("by " + t, x.mend(t, 0), BAD);
            DUE.is("no book, by " + t, y.mend(t, 0), BAD);
        }
        for (int m : NO_MINUTES) {
            DUE.is("at " + m, x.mend(1, m), BAD);
            DUE.is("no book, at " + m, y.mend(1, m), BAD);
        }
    }

    private static void mendState() {
        DUE.of("STATE: no BOOK, no BIG RING (or one OUT is told).");
        HotAtSeven none = DUE.with("kitchen 3 0 0 0 0 1 0;dish 0 0 0;rest 1 0;");
        DUE.is("no BIG RING", none.mend(1, 0), STATE);
        DUE.is("no BIG RING, by 0", none.mend(0, 0), BAD);
        DUE.is("no BIG RING, at 60", none.mend(1, 60), BAD);
        HotAtSeven x = DUE.with("kitchen 0 1 0 0 0 1 0;dish 0 0 0;rest 2 0;");
        DUE.is("none is OUT", x.mend(2, 0), 0);
        for (int out : new int[] {0, 30, 59}) {
            x.out(out);
            DUE.is("OUT from " + out, x.mend(2, 0), STATE);
            DUE.is("OUT from " + out + ", no PLAN ahead", x.mend(1, 0), STATE);
            DUE.is("OUT from " + out + ", by 0", x.mend(0, 0), BAD);
        }
        x.out(60);
        DUE.is("not any more", x.mend(2, 0), 0);
        DUE.is("no PLAN ahead", x.mend(1, 0), NONE);
    }

    private static void mendFromItsMinuteOn() {
        DUE.of("of PLANS by T with a BIG RING OUT from m on");
        // One ring, in minutes 15, 16, 17.
        HotAtSeven x = DUE.with("kitchen 0 1 0 0 0 1 0;dish 0 0 0;ring 3 0 0 1;rest 2 0;");
        for (int m = 13; m <= 22; m++) DUE.is("at " + m, x.mend(20, m), m <= 17 ? NONE : 0);
        HotAtSeven y = DUE.with("kitchen 0 2 0 0 0 1 0;dish 0 0 0;ring 3 0 0 1;rest 2 0;");
        for (int m = 13; m <= 22; m++) DUE.is("another ring is left, at " + m, y.mend(20, m), 0);
        HotAtSeven z = DUE.with("kitchen 1 1 0 0 0 1 0;dish 0 0 0;ring 3 0 0 0;rest 2 0;");
        for (int m = 13; m <= 22; m++) DUE.is("a SMALL ring is left, at " + m, z.mend(20, m), 0);
        DUE.is("and none is OUT but for that", y.gives(59, 1), 2);
    }

    private static void mendWhatBegan() {
        DUE.of("in which those STEPS that begin ahead of m in the PLAN of LEAST (with none OUT) begin as there");
        // By 20 both rings are on at 18, dish 0 may be done at 19; its hand is at 17, or at 16.
        HotAtSeven x = DUE.with("kitchen 0 2 0 0 0 1 0;dish 1 4 0;hand 1 0;ring 1 0 0 1;rest 1 0;dish 0 0 0;ring 1 0 0 1;rest 1 0;");
        x.dinner(3);
        DUE.begins(x, 20, 17, 18, 19, 18, 19);
        int[][] due = {{0, 4}, {15, 4}, {16, 4}, {17, NONE}, {18, NONE}, {19, 0}, {59, 0}};
        for (int[] d : due) DUE.is("at " + d[0], x.mend(20, d[0]), d[1]);
        // The rings are on one behind the other: one is enough.
        HotAtSeven y = DUE.with("kitchen 0 2 0 0 0 1 0;dish 1 4 0;hand 1 1;ring 1 0 0 1;rest 1 0;dish 0 0 0;ring 1 0 0 1;rest 2 0;");
        y.dinner(3);
        DUE.begins(y, 20, 17, 18, 19, 17, 18);
        DUE.is("never two at once", y.mend(20, 0), 0);
        HotAtSeven z = DUE.with("kitchen 0 2 0 0 0 1 0;away 17 17;dish 1 0 0;hand 1 1;ring 1 0 0 1;rest 1 0;dish 0 0 0;ring 1 0 0 1;rest 2 0;");
        z.dinner(3);
        DUE.begins(z, 20, 16, 17, 18, 17, 18);
        // With one ring at 17 the first waits for 18 behind its hand at 16, and is done at 20.
        int[][] waits = {{15, 1}, {16, 1}, {17, 1}, {18, 0}};
        for (int[] d : waits) DUE.is("at " + d[0], z.mend(20, d[0]), d[1]);
    }

    private static void mendNoOthersAhead() {
        DUE.of("and no others begin ahead of m: the least COST; NONE.");
        HotAtSeven x = DUE.with("kitchen 0 2 0 0 0 1 0;dish 2 1 0;ring 1 0 0 1;dish 0 0 0;ring 2 0 0 1;");
        x.dinner(3);
        DUE.begins(x, 20, 19, 18);
        // Dish 1 has the one ring at 18 and 19, so dish 0 must be on at 17.
        int[][] due = {{0, 2}, {16, 2}, {17, 2}, {18, NONE}, {19, NONE}, {20, 0}};
        for (int[] d : due) DUE.is("at " + d[0], x.mend(20, d[0]), d[1]);
    }

    /** Dish 0 is a minute early for the hand, as its rest began; only later would it leave the hand to dish 1. */
    private static void mendWhatBeganLater() {
        DUE.of("those STEPS that begin ahead of m in the PLAN of LEAST (with none OUT) begin as there");
        HotAtSeven x = DUE.with("kitchen 1 1 0 0 0 1 0;dish 1 1 0;rest 3 0;hand 1 0;dish 1 5 0;ring 1 0 1 0;dish 0 0 0;ring 1 0 0 0;");
        x.dinner(7);
        DUE.is("cost", x.least(20, -1), 1);
        DUE.begins(x, 20, 15, 18, 19, 19);
        int[][] due = {{0, 5}, {15, 5}, {16, NONE}, {18, NONE}, {19, NONE}, {20, 1}};
        for (int[] d : due) DUE.is("at " + d[0], x.mend(20, d[0]), d[1]);
    }

    /** MEND looks at LEAST's PLAN by its own T, whether that was asked for or not. */
    private static void mendAskedFirst() {
        DUE.of("that begin ahead of m in the PLAN of LEAST");
        String text = "kitchen 0 2 0 0 0 1 0;dish 2 1 0;ring 1 0 0 1;dish 0 0 0;ring 2 0 0 1;";
        for (int t : new int[] {0, 5, 30}) {
            HotAtSeven x = DUE.with(text);
            x.dinner(3);
            if (t > 0) x.least(t, -1);
            DUE.is("at 18, behind LEAST by " + t, x.mend(20, 18), NONE);
            DUE.is("at 17, behind LEAST by " + t, x.mend(20, 17), 2);
            DUE.is("by 21 at 18", x.mend(21, 18), 2);
        }
    }

    private static void mendLeastCost() {
        DUE.of("and no others begin ahead of m: the least COST");
        // With one ring at 18 dish 0 is on at 17: done a minute early for 9, or by a wait for 1.
        HotAtSeven x = DUE.with("kitchen 0 2 0 0 0 1 0;dish 1 9 0;ring 1 1 0 1;rest 1 0;dish 0 0 0;ring 1 0 0 1;rest 1 0;");
        x.dinner(3);
        DUE.is("a wait", x.mend(20, 0), 1);
        DUE.is("at 17", x.mend(20, 17), 1);
        DUE.is("at 18", x.mend(20, 18), NONE);
        DUE.is("at 19", x.mend(20, 19), 0);
    }

    /** Four of eight dishes of twelve choices, two rings: two are on at 17, two at 16; by one ring at 17, 16, 15, 14. */
    private static void mendOfTheFullestBook() {
        DUE.of("and no others begin ahead of m: the least COST; NONE.");
        HotAtSeven x = DUE.with("kitchen 0 2 0 0 0 1 0;" + "dish 2 1 0;ring 1 1 0 1;rest 1 1;rest 1 0;".repeat(8));
        int[][] due = {{0, 6}, {13, 6}, {14, 6}, {15, NONE}, {16, NONE}, {17, NONE}, {18, 2}, {59, 2}};
        for (int set : new int[] {0b00001111, 0b11110000, 0b10011001}) {
            x.dinner(set);
            DUE.least(x, 20, 2, 0, 0, 1, 1);
            for (int[] d : due) DUE.is("set " + set + " at " + d[0], x.mend(20, d[0]), d[1]);
        }
    }

    private static void mendNoPlan() {
        DUE.of("NONE: also no PLAN ahead.");
        // With a ring OUT there would be the same; there is none ahead, by 2.
        HotAtSeven x = DUE.with("kitchen 0 1 0 0 0 1 0;dish 2 0 0;rest 3 0;");
        DUE.is("by 2", x.mend(2, 0), NONE);
        DUE.is("by 3", x.mend(3, 0), 0);
        HotAtSeven y = DUE.with("kitchen 0 1 0 0 0 1 0;dish 2 0 0;ring 3 0 0 1;");
        DUE.is("a PLAN ahead, none then", y.mend(20, 0), NONE);
    }

    // ---- slack

    private static void slackNumbers() {
        DUE.of("SLACK of the k-th STEP of the DINNER by T; NONE: not so many, no PLAN. BAD: T, k below 0; STATE: no BOOK.");
        HotAtSeven x = DUE.with(TWELVE);
        for (int n = 1; n <= 4; n++) {
            x.dinner((1 << n) - 1);
            DUE.is("the first of " + n, x.slack(60, 0), 0);
            DUE.is("the last of " + n, x.slack(60, 3 * n - 1), 0);
            DUE.is("one more than " + n, x.slack(60, 3 * n), NONE);
            DUE.is("far more", x.slack(60, MOST), NONE);
        }
        DUE.is("by 3", x.slack(3, 11), 0);
        DUE.is("no plan", x.slack(2, 0), NONE);
        HotAtSeven y = new HotAtSeven();
        DUE.is("no book", y.slack(1, 0), STATE);
        for (int k : new int[] {-1, LEAST}) {
            DUE.is("k " + k, x.slack(60, k), BAD);
            DUE.is("no book, k " + k, y.slack(60, k), BAD);
        }
        for (int t : NO_TIMES) {
            DUE.is("by " + t, x.slack(t, 0), BAD);
            DUE.is("no book, by " + t, y.slack(t, 0), BAD);
        }
    }

    private static void slackOfOne() {
        DUE.of("the greatest s so that it may begin 1, 2, .. and s MINUTES later, all others as they are, and is JUDGED 0 each time");
        // The hand is at 16. For a COLD of 0 or 1 the rest begins at once, and could wait a minute; for 2 it waits.
        for (int cold = 0; cold <= 2; cold++) {
            HotAtSeven x = DUE.with("kitchen 0 0 0 0 0 1 0;away 17 17;dish 1 " + cold + " 0;hand 1 1;rest 2 0;");
            DUE.begins(x, 20, 16, cold < 2 ? 17 : 18);
            DUE.is("the hand, cold " + cold, x.slack(20, 0), 0);
            DUE.is("the rest, cold " + cold, x.slack(20, 1), cold < 2 ? 1 : 0);
        }
        // KEEP leaves two minutes, the WAIT only one; or the WAIT one, and KEEP none.
        HotAtSeven y = DUE.with("kitchen 0 0 0 0 0 1 0;away 16 17;dish 2 0 0;hand 1 1;rest 2 0;");
        DUE.begins(y, 20, 15, 16);
        DUE.is("two minutes early", y.slack(20, 1), 1);
        HotAtSeven z = DUE.with("kitchen 0 0 0 0 0 1 0;dish 0 0 0;hand 1 1;rest 2 1;");
        DUE.is("the wait behind the last is none", z.slack(20, 1), 0);
        HotAtSeven w = DUE.with("kitchen 0 0 0 0 0 1 0;away 17 17;dish 1 0 0;hand 1 0;rest 2 1;");
        DUE.is("early, but no WAIT", w.slack(20, 1), 0);
    }

    private static void slackByWants() {
        DUE.of("all others as they are, and is JUDGED 0 each time");
        // Dish 0's last step would begin a minute later, if the ring, the shelf, the hand of that minute are there.
        String[] steps = {"ring 1 0 0 1;", "ring 1 0 0 0;", "oven 1 0 0 0 0;"};
        String[] kitchens = {"kitchen 0 1 0 0 0 1 0;", "kitchen 1 0 0 0 0 1 0;", "kitchen 0 0 1 0 0 1 0;"};
        for (int i = 0; i < steps.length; i++) {
            String text = kitchens[i] + "away 17 18;dish 2 0 0;hand 1 1;" + steps[i] + "dish 0 0 0;" + steps[i] + "rest 1 0;";
            HotAtSeven x = DUE.with(text);
            // By 20: the hand at 16, the step at 17, done at 18; dish 1 has its one at 18.
            DUE.begins(x, 20, 16, 17);
            DUE.is("alone", x.slack(20, 1), 1);
            x.dinner(3);
            DUE.begins(x, 20, 16, 17, 18, 19);
            DUE.is("taken", x.slack(20, 1), 0);
        }
        // A hand that is away behind it; a ring that is OUT behind it; a pan that another has.
        HotAtSeven hand = DUE.with("kitchen 0 0 0 0 0 1 0;away 18 19;dish 2 0 0;rest 1 1;hand 1 0;");
        DUE.begins(hand, 20, 16, 17);
        DUE.is("away", hand.slack(20, 1), 0);
        HotAtSeven ring = DUE.with("kitchen 0 1 0 0 0 1 0;dish 2 0 0;rest 1 1;ring 1 0 0 1;");
        ring.out(18);
        DUE.begins(ring, 20, 16, 17);
        DUE.is("OUT", ring.slack(20, 1), 0);
    }

    /** On a new object, dishes that lie over one another in time. */
    private static void slackBesideOthers() {
        DUE.of("it may begin 1, 2, .. and s MINUTES later, all others as they are");
        String text = "kitchen 0 0 0 0 0 1 0;away 17 17;dish 0 0 0;rest 9 0;dish 1 0 0;hand 1 1;rest 2 0;dish 0 0 0;rest 5 0;rest 1 0;";
        int[] slack = {0, 0, 1, 0, 0};
        for (int k = 0; k < 5; k++) {
            HotAtSeven x = DUE.with(text);
            x.dinner(7);
            DUE.is("slack " + k, x.slack(20, k), slack[k]);
            HotAtSeven y = DUE.with(text);
            y.dinner(7);
            DUE.is("bears " + k, y.bears(20, k, 1), slack[k]);
            DUE.is("no more " + k, y.bears(20, k, 2), 0);
        }
    }

    // ---- bears

    private static void bearsNumbers() {
        DUE.of("BEARS of the k-th STEP of the DINNER by T: 1, 0; NONE: not so many, no PLAN. BAD: T, k below 0, n; STATE: no BOOK.");
        HotAtSeven x = DUE.with(TWELVE);
        x.dinner(15);
        HotAtSeven y = new HotAtSeven();
        for (int n = 1; n <= 9; n++) {
            DUE.is("the first", x.bears(60, 0, n), 0);
            DUE.is("the last", x.bears(60, 11, n), 0);
            DUE.is("one more", x.bears(60, 12, n), NONE);
            DUE.is("far more", x.bears(60, MOST, n), NONE);
            DUE.is("no plan", x.bears(2, 0, n), NONE);
            DUE.is("no book", y.bears(1, 0, n), STATE);
        }
        for (int n : new int[] {0, 10, -1, LEAST, MOST}) {
            DUE.is("n " + n, x.bears(60, 0, n), BAD);
            DUE.is("one more, n " + n, x.bears(60, 12, n), BAD);
            DUE.is("no book, n " + n, y.bears(60, 0, n), BAD);
        }
        for (int k : new int[] {-1, LEAST}) {
            DUE.is("k " + k, x.bears(60, k, 1), BAD);
            DUE.is("no book, k " + k, y.bears(60, k, 1), BAD);
        }
        for (int t : NO_TIMES) {
            DUE.is("by " + t, x.bears(t, 0, 1), BAD);
            DUE.is("no book, by " + t, y.bears(t, 0, 1), BAD);
        }
    }

    private static void bearsIntoKeep() {
        DUE.of("BEARS: whether beginnings as in LEAST's PLAN are JUDGED 0, if a STEP takes n MINUTES longer (1 to 9).");
        // Done so early that the last step may take just so much longer.
        for (int early = 0; early <= 2; early++) {
            String away = early > 0 ? "away " + (18 - early) + " 17;" : "";
            HotAtSeven x = DUE.with("kitchen 0 0 0 0 0 1 0;" + away + "dish 2 0 0;hand 1 0;rest 2 0;");
            DUE.begins(x, 20, 17 - early, 18 - early);
            for (int n = 1; n <= 9; n++) {
                DUE.is("early " + early + ", the rest by " + n, x.bears(20, 1, n), n <= early ? 1 : 0);
                DUE.is("early " + early + ", the hand by " + n, x.bears(20, 0, n), 0);
            }
        }
    }

    private static void bearsIntoAWait() {
        DUE.of("if a STEP takes n MINUTES longer");
        // The hand is away at 17, so the ring ahead of the rest is at 16, and a wait behind it.
        HotAtSeven x = DUE.with("kitchen 1 0 0 0 0 1 0;away 17 17;dish 0 0 0;ring 1 1 1 0;rest 2 0;");
        DUE.begins(x, 20, 16, 18);
        DUE.is("by 1, all the wait", x.bears(20, 0, 1), 1);
        DUE.is("by 2", x.bears(20, 0, 2), 0);
        HotAtSeven y = DUE.with("kitchen 1 0 0 0 0 1 0;away 17 17;dish 0 0 0;ring 1 1 2 0;rest 2 0;");
        DUE.begins(y, 20, 16, 18);
        DUE.is("by 1, stirred in all", y.bears(20, 0, 1), 0);
    }

    private static void bearsByWants() {
        DUE.of("if a STEP takes n MINUTES longer");
        // The last step goes on through 18, or through 18 and 19; another dish has the one thing at 19.
        String[] steps = {"ring 1 0 0 1;", "ring 1 0 0 0;", "oven 1 0 0 0 0;"};
        String[] kitchens = {"kitchen 0 1 0 0 0 1 0;", "kitchen 1 0 0 0 0 1 0;", "kitchen 0 0 1 0 0 1 0;"};
        for (int i = 0; i < steps.length; i++) {
            HotAtSeven x = DUE.with(kitchens[i] + "away 17 18;dish 2 0 0;hand 1 0;" + steps[i] + "dish 0 0 0;" + steps[i]);
            x.dinner(3);
            DUE.begins(x, 20, 16, 17, 19);
            DUE.is("by 1", x.bears(20, 1, 1), 1);
            DUE.is("by 2", x.bears(20, 1, 2), 0);
            x.dinner(1);
            DUE.is("alone, by 2", x.bears(20, 1, 2), 1);
        }
        // The oven is too hot, or the pan is another's, in the last minute.
        HotAtSeven oven = DUE.with("kitchen 0 0 2 9 9 1 0;away 17 18;dish 2 0 0;hand 1 0;oven 1 0 0 0 4;dish 0 0 0;oven 1 0 0 5 9;");
        oven.dinner(3);
        DUE.begins(oven, 20, 16, 17, 19);
        DUE.is("by 1", oven.bears(20, 1, 1), 1);
        DUE.is("by 2, too hot", oven.bears(20, 1, 2), 0);
        HotAtSeven pan = DUE.with("kitchen 0 0 0 0 0 1 1;away 17 18;dish 2 0 1;hand 1 0;rest 1 0;dish 0 0 1;rest 1 0;");
        pan.dinner(3);
        DUE.begins(pan, 20, 16, 17, 19);
        DUE.is("by 1", pan.bears(20, 1, 1), 1);
        DUE.is("by 2, no pan", pan.bears(20, 1, 2), 0);
    }

    private static void bearsAtTheEnd() {
        DUE.of("JUDGED 0, if a STEP takes n MINUTES longer (1 to 9)");
        HotAtSeven x = DUE.with("kitchen 0 0 0 0 0 1 0;away 28 29;dish 2 0 0;hand 1 0;rest 30 0;");
        DUE.begins(x, 60, 27, 28);
        DUE.is("a LONG of 31", x.bears(60, 1, 1), 1);
        DUE.is("to the last minute", x.bears(60, 1, 2), 1);
        DUE.is("behind it", x.bears(60, 1, 3), 0);
        DUE.is("far behind it", x.bears(60, 1, 9), 0);
        DUE.is("the LONG stays", x.step(1, 0), 30);
    }

    // ---- mind

    private static void mindNumbers() {
        DUE.of("MIND at a MINUTE by T: which STEP of the DINNER; NONE: also no PLAN. BAD; STATE: no BOOK.");
        HotAtSeven x = DUE.with(Due.RESTING);
        HotAtSeven y = new HotAtSeven();
        DUE.is("by 1 at 0", x.mind(1, 0), 0);
        DUE.is("by 60 at 59", x.mind(60, 59), 0);
        DUE.is("no book", y.mind(1, 0), STATE);
        HotAtSeven z = DUE.with("kitchen 0 0 0 0 0 1 0;dish 0 0 0;rest 2 0;");
        DUE.is("no plan", z.mind(1, 0), NONE);
        DUE.is("a plan", z.mind(2, 0), 0);
        for (int t : NO_TIMES) {
            DUE.is("by " + t, x.mind(t, 0), BAD);
            DUE.is("no book, by " + t, y.mind(t, 0), BAD);
        }
        for (int m : NO_MINUTES) {
            DUE.is("at " + m, x.mind(1, m), BAD);
            DUE.is("no plan, at " + m, z.mind(1, m), BAD);
            DUE.is("no book, at " + m, y.mind(1, m), BAD);
        }
    }

    private static void mindAtOrBehind() {
        DUE.of("that begins in LEAST's PLAN at m or first behind it");
        HotAtSeven x = DUE.with("kitchen 0 0 0 0 0 1 0;dish 0 0 0;rest 5 0;rest 3 0;rest 1 0;");
        // 11, 16, 19.
        int[][] due = {{0, 0}, {10, 0}, {11, 0}, {12, 1}, {15, 1}, {16, 1}, {17, 2}, {19, 2}, {20, NONE}, {59, NONE}};
        for (int[] d : due) DUE.is("at " + d[0], x.mind(20, d[0]), d[1]);
        DUE.is("by 60 at 59", x.mind(60, 59), 2);
        DUE.is("by 9 at 0", x.mind(9, 0), 0);
        DUE.is("by 9 at 1", x.mind(9, 1), 1);
    }

    private static void mindTheLeast() {
        DUE.of("of several the least; NONE.");
        HotAtSeven x = DUE.with("kitchen 0 0 0 0 0 1 0;dish 0 0 0;rest 9 0;dish 0 0 0;rest 1 0;rest 2 0;dish 0 0 0;rest 3 0;dish 0 0 0;rest 2 0;");
        x.dinner(0b1110);
        // Steps 0: 17, 1: 18, 2: 17, 3: 18, counted in the dinner.
        int[][] due = {{16, 0}, {17, 0}, {18, 1}, {19, NONE}};
        for (int[] d : due) DUE.is("at " + d[0], x.mind(20, d[0]), d[1]);
        x.dinner(0b1100);
        DUE.is("the dinner's own count", x.mind(20, 18), 1);
        x.dinner(0b1001);
        DUE.is("the last dish", x.mind(20, 12), 1);
    }
}
