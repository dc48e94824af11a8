/** Promises 29 to 32 at their boundaries, sentence by sentence: KINDS, ASKS, THE TRACE. */
public final class EdgesAskedTest {
    private static final Due DUE = new Due("EdgesAskedTest");
    private static final int NONE = HotAtSeven.NONE, BAD = HotAtSeven.BAD, KIND = -1000013;
    private static final int LEAST = Integer.MIN_VALUE, MOST = Integer.MAX_VALUE;
    private static final String KITCHEN = "kitchen 1 1 1 3 2 1 2;";

    public static void main(String[] args) {
        stirredOnes();
        stepsOfKind();
        stepsAs();
        kindsAs();
        stepsOfAsk();
        bodies();
        asksWithinAsks();
        leastAndMost();
        numbersBehindOthers();
        traceOfSixteen();
        traceEnds();
        traceIsEmptyAhead();
        traceOfRefused();
        DUE.end();
    }

    private static void stirredOnes() {
        DUE.of("6 STIRRED, a RINGED one: ring with STIR 2. It is told as the last that fits");
        HotAtSeven x = DUE.with(KITCHEN + "dish 0 0 0;ring 1 0 0 1;ring 1 0 1 1;ring 1 0 2 1;dish 0 0 0;oven 1 0 2 0 0;hand 1 0;rest 1 0;dish 0 0 0;keep 1 0 0;");
        int[] kinds = {1, 1, 6, 2, 3, 4, 5};
        for (int s = 0; s < kinds.length; s++) DUE.is("kind of " + s, x.kind(s), kinds[s]);
    }

    private static void stepsOfKind() {
        DUE.of("The KIND of a STEP, as it is told (1 to 6). BAD.");
        HotAtSeven most = DUE.with(KITCHEN + ("dish 0 0 0;" + "rest 1 0;".repeat(3)).repeat(8));
        HotAtSeven one = DUE.with(Due.RESTING);
        DUE.is("0 of 1", one.kind(0), 4);
        DUE.is("1 of 1", one.kind(1), BAD);
        DUE.is("23 of 24", most.kind(23), 4);
        DUE.is("24 of 24", most.kind(24), BAD);
        for (int s : new int[] {-1, LEAST, MOST}) DUE.is("step " + s, most.kind(s), BAD);
        DUE.is("no book", new HotAtSeven().kind(0), BAD);
    }

    private static void stepsAs() {
        DUE.of("A STEP is taken as one of a KIND (0 .. 6): its number. BAD; KIND: it is no such one.");
        HotAtSeven x = DUE.with(KITCHEN + ("dish 0 0 0;" + "rest 1 0;".repeat(3)).repeat(8));
        DUE.is("the last", x.as(23, 4), 23);
        DUE.is("one behind", x.as(24, 4), BAD);
        DUE.is("one behind, of no such kind", x.as(24, 1), BAD);
        for (int s : new int[] {-1, LEAST, MOST}) DUE.is("step " + s, x.as(s, 0), BAD);
        DUE.is("kind 0", x.as(23, 0), 23);
        DUE.is("kind 6", x.as(23, 6), KIND);
        for (int k : new int[] {-1, 7, LEAST, MOST}) DUE.is("kind " + k, x.as(23, k), BAD);
        DUE.is("no book", new HotAtSeven().as(0, 0), BAD);
    }

    private static void kindsAs() {
        DUE.of("KINDS of STEPS: 0 STEP; 1 RINGED, a STEP: ring; 2 BAKED, a STEP: oven; 3 HANDED, a STEP: hand; 4 RESTED, a STEP: rest;"
            + " 5 KEPT, a RESTED one: keep; 6 STIRRED, a RINGED one: ring with STIR 2.");
        HotAtSeven x = DUE.with(KITCHEN + "dish 0 0 0;ring 1 0 1 1;oven 1 0 2 0 0;hand 1 0;dish 0 0 0;rest 1 0;keep 1 0 0;ring 1 0 2 0;");
        String[] is = {"01", "02", "03", "04", "045", "016"};
        for (int s = 0; s < is.length; s++) {
            for (int kind = 0; kind <= 6; kind++) {
                boolean one = is[s].indexOf('0' + kind) >= 0;
                DUE.is("step " + s + " as " + kind, x.as(s, kind), one ? s : KIND);
            }
        }
    }

    private static void stepsOfAsk() {
        DUE.of("An ASK (0, 1) of a STEP. BAD.");
        HotAtSeven x = DUE.with(KITCHEN + ("dish 0 0 0;" + "rest 7 0;".repeat(3)).repeat(8));
        DUE.is("SIZE of the last", x.ask(23, 0), 7);
        DUE.is("MARK of the last", x.ask(23, 1), 73);
        DUE.is("one behind", x.ask(24, 0), BAD);
        for (int s : new int[] {-1, LEAST, MOST}) DUE.is("step " + s, x.ask(s, 0), BAD);
        for (int w : new int[] {-1, 2, LEAST, MOST}) DUE.is("what " + w, x.ask(0, w), BAD);
        DUE.is("no book", new HotAtSeven().ask(0, 0), BAD);
    }

    private static void asked(HotAtSeven x, int step, int what, int want, int... bodies) {
        DUE.is("ask " + step + " " + what, x.ask(step, what), want);
        for (int i = 0; i < bodies.length; i++) DUE.is("trace " + i + " of " + step + " " + what, x.trace(i), bodies[i]);
        DUE.is("no more of " + step + " " + what, x.trace(bodies.length), NONE);
    }

    /** Each BODY by the least and the most that its step can tell. */
    private static void bodies() {
        DUE.of("10 lent to all STEPS: LONG.");
        asked(one("hand 1 0;"), 0, 0, 1, 10);
        asked(one("rest 30 0;"), 0, 0, 30, 10);
        DUE.of("11 of RINGED ones: what 10 gives, and 10 times SIZE.");
        asked(one("ring 1 0 1 0;"), 0, 0, 1, 11, 10);
        asked(one("ring 30 0 1 1;"), 0, 0, 40, 11, 10);
        DUE.of("12 of STIRRED ones: what 11 gives, twice.");
        asked(one("ring 1 0 2 0;"), 0, 0, 2, 12, 11, 10);
        asked(one("ring 30 0 2 1;"), 0, 0, 80, 12, 11, 10);
        DUE.of("13 of BAKED ones: what 10 gives, and HIGH less LOW.");
        asked(one("oven 1 0 2 9 9;"), 0, 0, 1, 13, 10);
        asked(one("oven 30 0 2 0 9;"), 0, 0, 39, 13, 10);
        DUE.of("14 of KEPT ones: what 10 gives, less MARK.");
        asked(one("keep 1 0 9;"), 0, 0, 1 - 59, 14, 10, 22, 21, 20);
        asked(one("keep 30 0 0;"), 0, 0, 30 - 50, 14, 10, 22, 21, 20);
        DUE.of("20 lent to all STEPS: its number. 21 of RESTED ones: what 20 gives, and 50.");
        asked(one("oven 1 0 0 0 0;"), 0, 1, 0, 20);
        asked(one("rest 1 0;"), 0, 1, 50, 21, 20);
        DUE.of("22 of KEPT ones: what 21 gives, and LOSS. 23 of HANDED ones: what 20 gives, and SIZE. 24 of STIRRED ones: 0 less what 20 gives.");
        asked(one("keep 1 0 0;"), 0, 1, 50, 22, 21, 20);
        asked(one("keep 1 0 9;"), 0, 1, 59, 22, 21, 20);
        asked(one("hand 30 0;"), 0, 1, 30, 23, 20, 10);
        asked(one("ring 1 0 2 0;"), 0, 1, 0, 24, 20);
        asked(DUE.with(KITCHEN + "dish 0 0 0;rest 1 0;ring 1 0 2 0;"), 1, 1, -1, 24, 20);
    }

    private static HotAtSeven one(String step) {
        return DUE.with(KITCHEN + "dish 0 0 0;" + step);
    }

    private static void asksWithinAsks() {
        DUE.of("(Of an ask the BODY told for the KIND begins, else that of the nearest KIND that it is, too, else the one that is lent;"
            + " SIZE, MARK within others are asked of the same STEP anew.)");
        HotAtSeven x = DUE.with(KITCHEN + "dish 0 0 0;ring 3 0 1 1;oven 4 0 2 2 7;hand 5 0;dish 0 0 0;rest 6 0;keep 7 0 8;ring 9 0 2 1;");
        asked(x, 0, 0, 13, 11, 10);
        asked(x, 1, 0, 9, 13, 10);
        asked(x, 2, 0, 5, 10);
        asked(x, 3, 0, 6, 10);
        asked(x, 4, 0, 7 - 62, 14, 10, 22, 21, 20);
        asked(x, 5, 0, 38, 12, 11, 10);
        asked(x, 0, 1, 0, 20);
        asked(x, 1, 1, 1, 20);
        asked(x, 2, 1, 7, 23, 20, 10);
        asked(x, 3, 1, 53, 21, 20);
        asked(x, 4, 1, 62, 22, 21, 20);
        asked(x, 5, 1, -5, 24, 20);
    }

    private static void leastAndMost() {
        DUE.of("10 lent to all STEPS: LONG. 11 of RINGED ones: what 10 gives, and 10 times SIZE.");
        HotAtSeven x = DUE.with(KITCHEN + "dish 0 0 0;ring 1 0 0 0;ring 30 0 0 1;ring 30 0 2 1;dish 0 0 0;oven 1 0 0 9 9;oven 30 0 0 0 9;ring 1 0 2 0;"
            + "dish 0 0 0;keep 1 0 0;keep 30 0 9;hand 30 0;");
        int[] sizes = {1, 40, 80, 1, 39, 2, 1 - 56, 30 - 66, 30};
        int[] marks = {0, 1, -2, 3, 4, -5, 56, 66, 38};
        for (int s = 0; s < sizes.length; s++) {
            DUE.is("SIZE of " + s, x.ask(s, 0), sizes[s]);
            DUE.is("MARK of " + s, x.ask(s, 1), marks[s]);
        }
    }

    private static void numbersBehindOthers() {
        DUE.of("20 lent to all STEPS: its number.");
        HotAtSeven x = DUE.with(KITCHEN + ("dish 0 0 0;" + "ring 1 0 0 0;".repeat(3)).repeat(8));
        x.dinner(0b10000000);
        for (int s = 0; s < 24; s++) DUE.is("MARK of " + s, x.ask(s, 1), s);
    }

    /** No ask leaves more than five numbers, so all of them are among the first 16, and the 17th is NONE. */
    private static void traceOfSixteen() {
        DUE.of("each of which leaves its number in THE TRACE as it begins (the first 16)");
        HotAtSeven x = DUE.with(KITCHEN + "dish 0 0 0;keep 1 0 0;hand 1 0;ring 1 0 2 0;dish 0 0 0;ring 1 0 0 0;oven 1 0 0 0 0;rest 1 0;");
        for (int step = 0; step < 6; step++) {
            for (int what = 0; what < 2; what++) {
                x.ask(step, what);
                DUE.is("the first", x.trace(0) > 0 ? 1 : 0, 1);
                for (int i = 5; i < 18; i++) DUE.is("trace " + i, x.trace(i), NONE);
            }
        }
    }

    private static void traceEnds() {
        DUE.of("Number i of THE TRACE; NONE.");
        HotAtSeven x = DUE.with(KITCHEN + "dish 0 0 0;keep 1 0 0;");
        for (int i : new int[] {-1, 0, 15, 16, LEAST, MOST}) DUE.is("ahead of an ask, " + i, x.trace(i), NONE);
        x.ask(0, 0);
        DUE.is("the first", x.trace(0), 14);
        DUE.is("the last", x.trace(4), 20);
        DUE.is("one behind", x.trace(5), NONE);
        for (int i : new int[] {-1, 15, 16, 17, LEAST, MOST}) DUE.is("trace " + i, x.trace(i), NONE);
    }

    private static void traceIsEmptyAhead() {
        DUE.of("THE TRACE is empty ahead of it.");
        HotAtSeven x = DUE.with(KITCHEN + "dish 0 0 0;keep 1 0 0;rest 1 0;");
        asked(x, 0, 0, -49, 14, 10, 22, 21, 20);
        asked(x, 1, 0, 1, 10);
        for (int i = 1; i < 5; i++) DUE.is("nothing of the one before, " + i, x.trace(i), NONE);
        for (int i = 0; i < 40; i++) x.ask(0, 0);
        asked(x, 0, 0, -49, 14, 10, 22, 21, 20);
    }

    private static void traceOfRefused() {
        DUE.of("What is refused, or found, changes nothing but status().");
        HotAtSeven x = DUE.with(KITCHEN + "dish 0 0 0;keep 1 0 0;");
        x.ask(0, 1);
        int[] refused = {x.ask(1, 0), x.ask(-1, 0), x.ask(0, 2), x.ask(0, -1)};
        for (int r : refused) DUE.is("refused", r, BAD);
        int[] due = {22, 21, 20, NONE};
        for (int i = 0; i < 4; i++) DUE.is("trace " + i, x.trace(i), due[i]);
    }
}
