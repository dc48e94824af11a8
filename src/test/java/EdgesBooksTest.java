/** Promises 9 to 13, 27, 28 and 33 at their boundaries, sentence by sentence: what a BOOK tells, DINNER, OUT, IMAGES. */
public final class EdgesBooksTest {
    private static final Due DUE = new Due("EdgesBooksTest");
    private static final int NONE = HotAtSeven.NONE, BAD = HotAtSeven.BAD, STATE = HotAtSeven.STATE;
    private static final int LEAST = Integer.MIN_VALUE, MOST = Integer.MAX_VALUE;
    private static final String SMALLEST = "kitchen 0 1 0 0 0 1 0;dish 0 0 0;rest 1 0;";
    private static final String GREATEST = "kitchen 3 3 3 9 9 3 9;" + "away 0 59;".repeat(4)
        + ("dish 2 9 1;" + "oven 30 1 2 9 9;".repeat(3)).repeat(8);

    public static void main(String[] args) {
        dishes();
        toldOfDishes();
        choices();
        steps();
        toldOfSteps();
        stirs();
        gives();
        givesWithoutBook();
        handsAway();
        noFewerThanNoHand();
        ringsOut();
        dinnerBits();
        dinnerOfFour();
        dinnerWithoutBook();
        outMinutes();
        outWithoutRing();
        outToldAgain();
        imageNumbers();
        restoreBeforeOne();
        imageKeeps();
        imageStays();
        imageOfAll();
        restoredPlans();
        counts();
        countsAtMost();
        countsOfDinner();
        manyCalls();
        DUE.end();
    }

    private static void dishes() {
        DUE.of("5 how many CHOICES. BAD.");
        HotAtSeven one = DUE.with(SMALLEST);
        HotAtSeven eight = DUE.with(GREATEST);
        DUE.is("0 of 1", one.dish(0, 3), 1);
        DUE.is("1 of 1", one.dish(1, 3), BAD);
        DUE.is("7 of 8", eight.dish(7, 3), 3);
        DUE.is("8 of 8", eight.dish(8, 3), BAD);
        for (int d : new int[] {-1, LEAST, MOST}) DUE.is("dish " + d, eight.dish(d, 0), BAD);
        for (int w : new int[] {-1, 6, LEAST, MOST}) DUE.is("what " + w, eight.dish(0, w), BAD);
        DUE.is("without a book", new HotAtSeven().dish(0, 0), BAD);
    }

    private static void toldOfDishes() {
        DUE.of("Of a DISH: 0 KEEP, 1 COLD, 2 PAN, 3 how many STEPS, 4 its first STEP, 5 how many CHOICES.");
        HotAtSeven one = DUE.with(SMALLEST);
        int[] least = {0, 0, 0, 1, 0, 1};
        for (int w = 0; w < 6; w++) DUE.is("least " + w, one.dish(0, w), least[w]);
        HotAtSeven eight = DUE.with(GREATEST);
        for (int d = 0; d < 8; d++) {
            int[] most = {2, 9, 1, 3, 3 * d, 12};
            for (int w = 0; w < 6; w++) DUE.is("most " + d + " " + w, eight.dish(d, w), most[w]);
        }
    }

    private static void choices() {
        DUE.of("EARLY (0 to KEEP): how long ahead of T it is done; and for each STEP but the last one how long (0 to its WAIT)");
        for (int keep = 0; keep <= 2; keep++) {
            for (int waits = 0; waits < 8; waits++) {
                StringBuilder text = new StringBuilder("kitchen 0 0 0 0 0 1 0;");
                String dish = "dish " + keep + " 0 0;";
                String[] steps = {"rest 1 " + (waits & 1) + ";", "rest 1 " + (waits >> 1 & 1) + ";", "rest 1 " + (waits >> 2) + ";"};
                text.append(dish).append(steps[0]).append(dish).append(steps[0]).append(steps[1]);
                text.append(dish).append(steps[0]).append(steps[1]).append(steps[2]);
                HotAtSeven x = DUE.with(text.toString());
                int first = 1 + (waits & 1);
                int second = 1 + (waits >> 1 & 1);
                DUE.is("one step", x.dish(0, 5), keep + 1);
                DUE.is("two steps", x.dish(1, 5), (keep + 1) * first);
                DUE.is("three steps", x.dish(2, 5), (keep + 1) * first * second);
            }
        }
    }

    private static void steps() {
        DUE.of("`int step(int step, int what)`: Of a STEP:");
        HotAtSeven one = DUE.with(SMALLEST);
        HotAtSeven eight = DUE.with(GREATEST);
        DUE.is("0 of 1", one.step(0, 0), 1);
        DUE.is("1 of 1", one.step(1, 0), BAD);
        DUE.is("23 of 24", eight.step(23, 0), 30);
        DUE.is("24 of 24", eight.step(24, 0), BAD);
        for (int s : new int[] {-1, LEAST, MOST}) DUE.is("step " + s, eight.step(s, 0), BAD);
        for (int w : new int[] {-1, 5, LEAST, MOST}) DUE.is("what " + w, eight.step(0, w), BAD);
        DUE.is("without a book", new HotAtSeven().step(0, 0), BAD);
    }

    private static void toldOfSteps() {
        DUE.of("3 SIZE, LOW, or LOSS (NONE: it has none), 4 HIGH (NONE). BAD.");
        HotAtSeven x = DUE.with("kitchen 0 0 0 0 0 1 0;dish 0 0 0;ring 1 0 0 0;ring 30 1 2 1;dish 0 0 0;oven 1 0 0 0 0;oven 30 1 2 9 9;"
            + "dish 0 0 0;hand 1 0;hand 30 1;dish 0 0 0;rest 1 0;rest 30 1;dish 0 0 0;keep 1 0 0;keep 30 1 9;");
        int[][] due = {{0, NONE}, {1, NONE}, {0, 0}, {9, 9}, {NONE, NONE}, {NONE, NONE}, {NONE, NONE}, {NONE, NONE}, {0, NONE}, {9, NONE}};
        for (int s = 0; s < 10; s++) {
            DUE.is("LONG of " + s, x.step(s, 0), s % 2 == 0 ? 1 : 30);
            DUE.is("WAIT of " + s, x.step(s, 1), s % 2);
            DUE.is("what 3 of " + s, x.step(s, 3), due[s][0]);
            DUE.is("what 4 of " + s, x.step(s, 4), due[s][1]);
        }
    }

    private static void stirs() {
        DUE.of("2 STIR (hand: 2; rest, keep: 0)");
        HotAtSeven x = DUE.with("kitchen 0 0 0 0 0 1 0;dish 0 0 0;ring 1 0 0 0;ring 1 0 1 0;ring 1 0 2 0;dish 0 0 0;oven 1 0 0 0 0;oven 1 0 1 0 0;"
            + "oven 1 0 2 0 0;dish 0 0 0;hand 1 1;rest 1 1;keep 1 1 2;");
        int[] due = {0, 1, 2, 0, 1, 2, 2, 0, 0};
        for (int s = 0; s < 9; s++) DUE.is("STIR of " + s, x.step(s, 2), due[s]);
    }

    private static void gives() {
        DUE.of("Of the KITCHEN, in a MINUTE: 0 RINGS, 1 BIG ones, 2 SHELVES, 3 HANDS, 4 PANS.");
        HotAtSeven least = DUE.with("kitchen 0 0 0 0 0 1 0;dish 0 0 0;rest 1 0;");
        HotAtSeven most = DUE.with("kitchen 3 3 3 0 0 3 9;dish 0 0 0;rest 1 0;");
        int[] fewest = {0, 0, 0, 1, 0};
        int[] many = {6, 3, 3, 3, 9};
        for (int minute = 0; minute < 60; minute += 59) {
            for (int w = 0; w < 5; w++) {
                DUE.is("least " + minute + " " + w, least.gives(minute, w), fewest[w]);
                DUE.is("most " + minute + " " + w, most.gives(minute, w), many[w]);
            }
        }
        for (int m : new int[] {-1, 60, LEAST, MOST}) DUE.is("minute " + m, most.gives(m, 0), BAD);
        for (int w : new int[] {-1, 5, LEAST, MOST}) DUE.is("what " + w, most.gives(0, w), BAD);
    }

    private static void givesWithoutBook() {
        DUE.of("BAD; STATE: no BOOK (ahead of BAD).");
        HotAtSeven x = new HotAtSeven();
        DUE.is("as told", x.gives(0, 0), STATE);
        DUE.is("minute -1", x.gives(-1, 0), STATE);
        DUE.is("minute 60", x.gives(60, 0), STATE);
        DUE.is("what 5", x.gives(0, 5), STATE);
        Due.read(x, SMALLEST);
        DUE.is("as told", x.gives(0, 0), 1);
        DUE.is("minute 60", x.gives(60, 0), BAD);
    }

    private static void handsAway() {
        DUE.of("HANDS as told, less 1 for each 'away' that has the MINUTE");
        HotAtSeven x = DUE.with("kitchen 0 0 0 0 0 3 0;away 0 0;away 10 12;away 12 13;away 59 59;dish 0 0 0;rest 1 0;");
        int[][] due = {{0, 2}, {1, 3}, {9, 3}, {10, 2}, {11, 2}, {12, 1}, {13, 2}, {14, 3}, {58, 3}, {59, 2}};
        for (int[] d : due) DUE.is("minute " + d[0], x.gives(d[0], 3), d[1]);
        HotAtSeven whole = DUE.with("kitchen 0 0 0 0 0 3 0;away 0 59;dish 0 0 0;rest 1 0;");
        for (int m = 0; m < 60; m++) DUE.is("all minutes", whole.gives(m, 3), 2);
    }

    private static void noFewerThanNoHand() {
        DUE.of("(0 at least)");
        for (int hands = 1; hands <= 3; hands++) {
            for (int aways = 0; aways <= 4; aways++) {
                HotAtSeven x = DUE.with("kitchen 0 0 0 0 0 " + hands + " 0;" + "away 7 7;".repeat(aways) + "dish 0 0 0;hand 1 0;dish 0 0 0;rest 1 0;");
                DUE.is(hands + " less " + aways, x.gives(7, 3), Math.max(0, hands - aways));
                DUE.is("elsewhere", x.gives(8, 3), hands);
                DUE.judged(x, 8, hands > aways ? 0 : 1075, 7);
                DUE.is("a plan", x.least(8, -1), hands > aways ? 0 : NONE);
                x.dinner(2);
                DUE.judged(x, 8, 0, 7);
            }
        }
    }

    private static void ringsOut() {
        DUE.of("BIG ones as many as BIG, less 1 if one is OUT then");
        for (int small = 0; small <= 3; small++) {
            for (int big = 1; big <= 3; big++) {
                HotAtSeven x = DUE.with("kitchen " + small + " " + big + " 0 0 0 1 0;dish 0 0 0;rest 1 0;");
                for (int out : new int[] {0, 1, 30, 59}) {
                    x.out(out);
                    if (out > 0) DUE.is("ahead of " + out, x.gives(out - 1, 1), big);
                    if (out > 0) DUE.is("RINGS ahead of " + out, x.gives(out - 1, 0), small + big);
                    DUE.is("from " + out, x.gives(out, 1), big - 1);
                    DUE.is("RINGS from " + out, x.gives(out, 0), small + big - 1);
                    DUE.is("to the end", x.gives(59, 1), big - 1);
                }
                x.out(60);
                DUE.is("not any more", x.gives(59, 1), big);
            }
        }
    }

    private static String dishes(int n) {
        return "kitchen 0 0 0 0 0 1 0;" + "dish 0 0 0;rest 1 0;".repeat(n);
    }

    private static void dinnerBits() {
        DUE.of("BAD: none, more than 4, DISHES that there are not.");
        for (int n = 1; n <= 8; n++) {
            HotAtSeven x = DUE.with(dishes(n));
            DUE.is("none of " + n, x.dinner(0), BAD);
            DUE.is("the first of " + n, x.dinner(1), 1);
            DUE.is("the last of " + n, x.dinner(1 << n - 1), 1);
            DUE.is("one behind the last of " + n, x.dinner(1 << n), BAD);
            DUE.is("the first, and one behind the last of " + n, x.dinner(1 | 1 << n), BAD);
            DUE.is("the highest bit", x.dinner(LEAST), BAD);
            DUE.is("the first and the highest bit", x.dinner(LEAST | 1), BAD);
            DUE.is("all bits", x.dinner(-1), BAD);
        }
    }

    private static void dinnerOfFour() {
        DUE.of("THE DINNER: a set of DISHES (1 to 4)");
        HotAtSeven x = DUE.with(dishes(8));
        for (int set = 1; set < 256; set++) {
            int many = Integer.bitCount(set);
            DUE.is("dinner " + set, x.dinner(set), many <= 4 ? many : BAD);
            DUE.is("how many", x.count(3), many <= 4 ? many : 4);
            if (many > 4) x.dinner(15);
        }
    }

    private static void dinnerWithoutBook() {
        DUE.of("BAD: none, more than 4, DISHES that there are not.");
        HotAtSeven x = new HotAtSeven();
        for (int set : new int[] {0, 1, 2, 15, 31, -1}) DUE.is("dinner " + set, x.dinner(set), BAD);
        DUE.is("none", x.count(3), 0);
    }

    private static void outMinutes() {
        DUE.of("A BIG RING is OUT from a MINUTE on (60: not any more): 1. BAD: MINUTE 0 to 60");
        HotAtSeven x = DUE.with(SMALLEST);
        for (int m : new int[] {0, 1, 59, 60}) {
            DUE.is("minute " + m, x.out(m), 1);
            DUE.is("count", x.count(7), m);
            for (int bad : new int[] {-1, 61, LEAST, MOST}) DUE.is("minute " + bad, x.out(bad), BAD);
            DUE.is("stays", x.count(7), m);
        }
    }

    private static void outWithoutRing() {
        DUE.of("BAD: MINUTE 0 to 60; STATE: no BOOK, no BIG ones.");
        HotAtSeven x = new HotAtSeven();
        for (int m : new int[] {0, 59, 60}) DUE.is("no book, " + m, x.out(m), STATE);
        for (int m : new int[] {-1, 61}) DUE.is("no book, " + m, x.out(m), BAD);
        Due.read(x, "kitchen 3 0 0 0 0 1 0;dish 0 0 0;rest 1 0;");
        for (int m : new int[] {0, 59, 60}) DUE.is("no big ones, " + m, x.out(m), STATE);
        for (int m : new int[] {-1, 61}) DUE.is("no big ones, " + m, x.out(m), BAD);
        DUE.is("none is out", x.count(7), 60);
        Due.read(x, "kitchen 0 1 0 0 0 1 0;dish 0 0 0;rest 1 0;");
        DUE.is("one big one", x.out(0), 1);
        DUE.is("it is out already, and told again", x.out(0), 1);
    }

    private static void outToldAgain() {
        DUE.of("OUT from a MINUTE on: one BIG RING less.");
        HotAtSeven x = DUE.with("kitchen 0 3 0 0 0 1 0;dish 0 0 0;rest 1 0;");
        x.out(20);
        x.out(10);
        DUE.is("one less, not two", x.gives(30, 1), 2);
        DUE.is("from 10 on", x.gives(10, 1), 2);
        x.out(20);
        DUE.is("from 20 on", x.gives(19, 1), 3);
    }

    private static void imageNumbers() {
        DUE.of("An IMAGE (0, 1) is kept of BOOK, DINNER, OUT: 1. BAD; STATE: no BOOK.");
        HotAtSeven x = new HotAtSeven();
        for (int k : new int[] {0, 1}) DUE.is("no book, " + k, x.image(k), STATE);
        for (int k : new int[] {-1, 2, LEAST, MOST}) DUE.is("no book, " + k, x.image(k), BAD);
        Due.read(x, SMALLEST);
        for (int k : new int[] {-1, 2, LEAST, MOST}) DUE.is("image " + k, x.image(k), BAD);
        for (int k : new int[] {0, 1}) DUE.is("none was kept, " + k, x.restore(k), STATE);
        for (int k : new int[] {0, 1}) DUE.is("image " + k, x.image(k), 1);
    }

    private static void restoreBeforeOne() {
        DUE.of("All that is as an IMAGE kept it: 1. BAD; STATE: none was kept.");
        for (int kept = 0; kept < 2; kept++) {
            HotAtSeven x = DUE.with(SMALLEST);
            x.image(kept);
            DUE.is("the other", x.restore(1 - kept), STATE);
            DUE.is("the one", x.restore(kept), 1);
            DUE.is("again", x.restore(kept), 1);
            DUE.is("the other, still", x.restore(1 - kept), STATE);
            for (int k : new int[] {-1, 2, LEAST, MOST}) DUE.is("restore " + k, x.restore(k), BAD);
        }
        HotAtSeven x = new HotAtSeven();
        for (int k : new int[] {0, 1}) DUE.is("no book, " + k, x.restore(k), STATE);
        for (int k : new int[] {-1, 2}) DUE.is("no book, " + k, x.restore(k), BAD);
        x.image(0);
        Due.read(x, SMALLEST);
        DUE.is("an image that was refused was not kept", x.restore(0), STATE);
    }

    private static void imageKeeps() {
        DUE.of("is kept of BOOK, DINNER, OUT");
        HotAtSeven x = DUE.with(GREATEST);
        x.dinner(0b11110000);
        x.out(0);
        x.image(0);
        Due.read(x, SMALLEST);
        x.sheet(2, 0, 3);
        x.set(2, 3, 0);
        Due.feed(x, "kitchen 9");
        DUE.is("restore", x.restore(0), 1);
        DUE.is("the latest FINDING is not in it", x.status(), 2);
        int[] counts = {1, 8, 24, 4, 12, 4, 9, 0};
        for (int w = 0; w < 8; w++) DUE.is("count " + w, x.count(w), counts[w]);
        for (int d = 0; d < 8; d++) DUE.is("dish " + d, x.dish(d, 4), 3 * d);
        DUE.is("step 23", x.step(23, 4), 9);
        DUE.is("gives", x.gives(0, 1), 2);
        DUE.is("gives", x.gives(0, 3), 0);
        DUE.is("the tape is not in it", x.book(), -1000108);
    }

    private static void imageStays() {
        DUE.of("All that is as an IMAGE kept it: 1.");
        HotAtSeven x = DUE.with(SMALLEST);
        x.image(0);
        Due.read(x, GREATEST);
        x.image(1);
        x.dinner(6);
        x.out(9);
        DUE.is("restore 0", x.restore(0), 1);
        DUE.is("dishes", x.count(1), 1);
        x.out(5);
        DUE.is("restore 1", x.restore(1), 1);
        DUE.is("dishes", x.count(1), 8);
        DUE.is("dinner", x.count(3), 1);
        DUE.is("out", x.count(7), 60);
        DUE.is("restore 0", x.restore(0), 1);
        DUE.is("what came behind it does not change it", x.count(7), 60);
        x.out(5);
        x.image(0);
        x.out(6);
        DUE.is("restore 0", x.restore(0), 1);
        DUE.is("kept anew, in place of the one before", x.count(7), 5);
    }

    /** Two books that have nothing in common, each over the other: all is as in a new object that reads the one. */
    private static void imageOfAll() {
        DUE.of("All that is as an IMAGE kept it: 1.");
        String one = "kitchen 1 2 3 4 5 3 7;away 8 9;away 10 11;dish 1 2 1;ring 3 1 1 1;oven 4 0 2 5 6;keep 7 1 8;dish 2 9 0;hand 10 1;dish 0 4 1;rest 12 0;keep 2 0 4;";
        String other = "kitchen 3 1 2 9 8 2 6;away 20 31;away 0 4;dish 2 5 0;oven 9 0 0 1 9;hand 8 1;dish 0 1 1;keep 6 1 3;ring 5 0 2 0;ring 1 1 0 1;dish 1 8 0;oven 2 1 1 2 3;";
        String[] texts = {one, other};
        for (int k = 0; k < 2; k++) {
            HotAtSeven x = DUE.with(texts[k]);
            x.dinner(5);
            x.out(33);
            x.image(k);
            Due.read(x, texts[1 - k]);
            x.image(1 - k);
            DUE.is("restore", x.restore(k), 1);
            HotAtSeven y = DUE.with(texts[k]);
            y.dinner(5);
            y.out(33);
            alike(x, y);
            DUE.is("restore the other", x.restore(1 - k), 1);
            alike(x, DUE.with(texts[1 - k]));
        }
    }

    private static void alike(HotAtSeven x, HotAtSeven y) {
        for (int w = 0; w < 8; w++) DUE.is("count " + w, x.count(w), y.count(w));
        for (int d = 0; d < 8; d++) for (int w = 0; w < 6; w++) DUE.is("dish " + d + " " + w, x.dish(d, w), y.dish(d, w));
        for (int s = 0; s < 24; s++) {
            DUE.is("kind " + s, x.kind(s), y.kind(s));
            for (int w = 0; w < 5; w++) DUE.is("step " + s + " " + w, x.step(s, w), y.step(s, w));
        }
        for (int m = 0; m < 60; m++) for (int w = 0; w < 5; w++) DUE.is("gives " + m + " " + w, x.gives(m, w), y.gives(m, w));
        for (int t = 1; t <= 60; t++) {
            DUE.is("least by " + t, x.least(t, -1), y.least(t, -1));
            DUE.is("heat by " + t, x.heat(t, t - 1), y.heat(t, t - 1));
        }
    }

    private static void restoredPlans() {
        DUE.of("All that is as an IMAGE kept it: 1.");
        HotAtSeven x = DUE.with("kitchen 0 1 0 0 0 1 0;dish 0 0 0;ring 2 0 0 1;dish 0 0 0;rest 5 0;");
        x.image(0);
        DUE.is("begins", x.begins(20, 0), 18);
        DUE.is("dinners", x.dinners(1, 20, 0), 3);
        x.dinner(2);
        DUE.is("another dinner", x.begins(20, 0), 15);
        x.restore(0);
        DUE.is("restored", x.begins(20, 0), 18);
        x.out(19);
        DUE.is("a ring out", x.begins(20, 0), NONE);
        DUE.is("dinners", x.dinners(1, 20, 0), 1);
        x.restore(0);
        DUE.is("restored", x.begins(20, 0), 18);
        DUE.is("dinners", x.dinners(1, 20, 0), 3);
        Due.read(x, "kitchen 0 0 0 0 0 1 0;dish 0 0 0;rest 7 0;");
        DUE.is("another book", x.begins(20, 0), 13);
        DUE.is("dinners", x.dinners(1, 20, 0), 1);
        x.restore(0);
        DUE.is("restored", x.begins(20, 0), 18);
        DUE.is("seven", x.seven(20), 1);
        DUE.is("dinners", x.dinners(1, 20, 0), 3);
    }

    private static void counts() {
        DUE.of("7 from which MINUTE a RING is OUT (60: none). BAD.");
        HotAtSeven x = new HotAtSeven();
        int[] none = {0, 0, 0, 0, 0, 0, 0, 60};
        for (int w = 0; w < 8; w++) DUE.is("new " + w, x.count(w), none[w]);
        for (int w : new int[] {-1, 8, LEAST, MOST}) DUE.is("count " + w, x.count(w), BAD);
    }

    private static void countsAtMost() {
        DUE.of("How many: 0 SHEETS, 1 DISHES, 2 STEPS of all, 3 DISHES of the DINNER, 4 its STEPS, 5 'away', 6 bytes on the tape");
        HotAtSeven x = DUE.with(GREATEST);
        for (int s = 0; s < 8; s++) x.sheet(s, 0, 0);
        x.dinner(0b10101010);
        for (int i = 0; i < 75; i++) x.feed(0, 8);
        x.out(59);
        int[] most = {8, 8, 24, 4, 12, 4, 600, 59};
        for (int w = 0; w < 8; w++) DUE.is("most " + w, x.count(w), most[w]);
        x.drop(7);
        DUE.is("one sheet less", x.count(0), 7);
    }

    private static void countsOfDinner() {
        DUE.of("3 DISHES of the DINNER, 4 its STEPS");
        HotAtSeven x = DUE.with("kitchen 0 0 0 0 0 1 0;dish 0 0 0;rest 1 0;dish 0 0 0;rest 1 0;rest 1 0;dish 0 0 0;rest 1 0;rest 1 0;rest 1 0;");
        for (int set = 1; set < 8; set++) {
            x.dinner(set);
            DUE.is("dishes of " + set, x.count(3), Integer.bitCount(set));
            DUE.is("steps of " + set, x.count(4), (set & 1) + (set >> 1 & 1) * 2 + (set >> 2) * 3);
        }
    }

    private static void manyCalls() {
        DUE.of("An object is used for at most 512 calls after it has been made");
        HotAtSeven x = new HotAtSeven();
        String text = "kitchen 1 1 1 3 2 1 2;dish 2 1 0;rest 5 0;dish 0 0 0;hand 1 0;";
        int calls = (text.length() + 7) / 8 + 1;
        DUE.is("read", Due.read(x, text), 2);
        for (; calls < 511; calls++) {
            int t = 5 + calls % 56;
            if (calls % 3 == 0) DUE.is("call " + calls, x.begins(t, 0), t - 5);
            else if (calls % 3 == 1) DUE.is("call " + calls, x.sheet(calls % 8, 2, calls % 41), calls % 41);
            else DUE.is("call " + calls, x.dinners(1 + calls % 2, t, 0), 3);
        }
        DUE.is("call 512", x.earliest(), 5);
    }
}
