/** Promises 29 to 32: kind, as, ask, trace. */
public final class AskedTest {
    private static final Due DUE = new Due("AskedTest");
    private static final int NONE = HotAtSeven.NONE, BAD = HotAtSeven.BAD, KIND = -1000013;
    private static final int[] KINDS = {1, 2, 3, 4, 5, 6, 6, 1};
    private static final int[][] IS = {{0, 1}, {0, 2}, {0, 3}, {0, 4}, {0, 4, 5}, {0, 1, 6}, {0, 1, 6}, {0, 1}};
    private static final int[] SIZES = {17, 12, 9, 4, -52, 32, 6, 2};
    private static final int[][] SIZE_BODIES = {{11, 10}, {13, 10}, {10}, {10}, {14, 10, 22, 21, 20}, {12, 11, 10}, {12, 11, 10}, {11, 10}};
    private static final int[] MARKS = {0, 1, 11, 53, 57, -5, -6, 7};
    private static final int[][] MARK_BODIES = {{20}, {20}, {23, 20, 10}, {21, 20}, {22, 21, 20}, {24, 20}, {24, 20}, {20}};

    public static void main(String[] args) {
        HotAtSeven x = new HotAtSeven();
        DUE.is("no book", x.kind(0), BAD);
        DUE.is("no book", x.as(0, 0), BAD);
        DUE.is("no book", x.ask(0, 0), BAD);
        Due.read(x, "kitchen 1 1 1 3 2 1 2;dish 0 0 0;ring 7 0 1 1;oven 8 0 2 2 6;hand 9 0;dish 0 0 0;rest 4 0;keep 5 0 3;"
            + "ring 6 0 2 1;dish 0 0 0;ring 3 0 2 0;ring 2 0 0 0;");
        for (int step = 0; step < KINDS.length; step++) {
            DUE.is("kind " + step, x.kind(step), KINDS[step]);
            kinds(x, step);
            DUE.is("size " + step, x.ask(step, 0), SIZES[step]);
            trace(x, step, SIZE_BODIES[step]);
            DUE.is("mark " + step, x.ask(step, 1), MARKS[step]);
            trace(x, step, MARK_BODIES[step]);
        }
        refused(x);
        DUE.end();
    }

    private static void kinds(HotAtSeven x, int step) {
        for (int kind = 0; kind < 7; kind++) {
            boolean is = false;
            for (int k : IS[step]) is |= k == kind;
            DUE.is("as " + step + " " + kind, x.as(step, kind), is ? step : KIND);
            DUE.is("status " + step + " " + kind, x.status(), is ? 0 : 3);
        }
    }

    private static void trace(HotAtSeven x, int step, int[] bodies) {
        for (int i = 0; i < 17; i++) DUE.is("trace of " + step + ": " + i, x.trace(i), i < bodies.length ? bodies[i] : NONE);
    }

    private static void refused(HotAtSeven x) {
        DUE.is("mark of the keep", x.ask(4, 1), 57);
        DUE.is("ask -1", x.ask(-1, 0), BAD);
        DUE.is("ask 8", x.ask(8, 0), BAD);
        DUE.is("what -1", x.ask(0, -1), BAD);
        DUE.is("what 2", x.ask(0, 2), BAD);
        trace(x, 4, new int[] {22, 21, 20});
        DUE.is("trace -1", x.trace(-1), NONE);
        DUE.is("trace least", x.trace(Integer.MIN_VALUE), NONE);
        DUE.is("trace most", x.trace(Integer.MAX_VALUE), NONE);
        DUE.is("kind -1", x.kind(-1), BAD);
        DUE.is("kind 8", x.kind(8), BAD);
        DUE.is("as -1", x.as(-1, 0), BAD);
        DUE.is("as 8", x.as(8, 0), BAD);
        DUE.is("as kind -1", x.as(0, -1), BAD);
        DUE.is("as kind 7", x.as(0, 7), BAD);
    }
}
