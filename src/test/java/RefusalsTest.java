import java.util.Random;

/** Which refusal comes first, that what is refused or found changes nothing but status(), and that no call throws. */
public final class RefusalsTest {
    private static final Due DUE = new Due("RefusalsTest");
    private static final int BAD = HotAtSeven.BAD, STATE = HotAtSeven.STATE;
    private static final int[] ODD = {Integer.MIN_VALUE, Integer.MIN_VALUE + 1, -1000000, -61, -2, -1, 0, 1, 2, 3, 4, 5, 6, 7, 8, 9,
        10, 15, 30, 39, 40, 41, 59, 60, 61, 100, 255, 256, 65535, 1000000, Integer.MAX_VALUE - 1, Integer.MAX_VALUE};

    public static void main(String[] args) {
        withoutBook();
        nothingChanges();
        fuzz();
        DUE.end();
    }

    private static void withoutBook() {
        HotAtSeven x = new HotAtSeven();
        x.sheet(0, 0, 4);
        DUE.is("gives", x.gives(60, 5), STATE);
        DUE.is("judge", x.judge(0, 9, 1), STATE);
        DUE.is("judge missing", x.judge(1, 0, 1), STATE);
        DUE.is("judge bad", x.judge(0, 0, 61), BAD);
        DUE.is("least", x.least(60, 9), STATE);
        DUE.is("least bad", x.least(61, 9), BAD);
        DUE.is("least bad", x.least(60, -2), BAD);
        DUE.is("begins", x.begins(1, 0), STATE);
        DUE.is("begins bad", x.begins(0, 0), BAD);
        DUE.is("seven", x.seven(60), STATE);
        DUE.is("seven bad", x.seven(0), BAD);
        DUE.is("earliest", x.earliest(), STATE);
        DUE.is("heat", x.heat(60, 59), STATE);
        DUE.is("heat bad", x.heat(60, -1), BAD);
        DUE.is("wanted", x.wanted(60, 59, 3), STATE);
        DUE.is("wanted bad", x.wanted(60, 60, 3), BAD);
        DUE.is("dinners", x.dinners(3, 60, 1), STATE);
        DUE.is("dinners bad", x.dinners(3, 60, 2), BAD);
        DUE.is("more", x.more(60), STATE);
        DUE.is("more bad", x.more(61), BAD);
        DUE.is("mend", x.mend(60, 59), STATE);
        DUE.is("mend bad", x.mend(60, 60), BAD);
        DUE.is("slack", x.slack(60, 0), STATE);
        DUE.is("slack bad", x.slack(60, -1), BAD);
        DUE.is("bears", x.bears(60, 0, 9), STATE);
        DUE.is("bears bad", x.bears(60, 0, 10), BAD);
        DUE.is("mind", x.mind(60, 59), STATE);
        DUE.is("mind bad", x.mind(60, 60), BAD);
        DUE.is("image", x.image(1), STATE);
        DUE.is("restore", x.restore(1), STATE);
        DUE.is("out", x.out(60), STATE);
        DUE.is("out bad", x.out(-1), BAD);
        DUE.is("count", x.count(0), 1);
    }

    /** Many answers in one number. */
    private static long picture(HotAtSeven x) {
        long all = 17;
        for (int w = 0; w < 8; w++) all = all * 31 + x.count(w);
        for (int d = 0; d < 8; d++) for (int w = 0; w < 6; w++) all = all * 31 + x.dish(d, w);
        for (int s = 0; s < 24; s++) for (int w = 0; w < 5; w++) all = all * 31 + x.step(s, w);
        for (int m = 0; m < 60; m += 7) for (int w = 0; w < 5; w++) all = all * 31 + x.gives(m, w);
        for (int i = 0; i < 6; i++) all = all * 31 + x.trace(i);
        for (int t = 10; t <= 60; t += 25) for (int k = 0; k < 6; k++) all = all * 31 + x.begins(t, k);
        return all * 31 + x.fault();
    }

    private static boolean isRefused(int answer) {
        return answer == BAD || answer == STATE || answer == HotAtSeven.FULL || answer <= -1000011 && answer >= -1000015;
    }

    private static void nothingChanges() {
        Random r = new Random(3);
        int refused = 0;
        for (int i = 0; i < 300; i++) {
            HotAtSeven x = new HotAtSeven();
            if (i % 5 != 0) Due.read(x, PlainTest.book(r));
            for (int call = 0; call < 60; call++) {
                long before = picture(x);
                int which = r.nextInt(34);
                int answer = call(x, which, r);
                if (!isRefused(answer) || which == 5) continue;
                refused++;
                DUE.is("call " + which + " refused by " + answer + " changes nothing", picture(x), before);
            }
        }
        DUE.is("refused enough", refused > 3000 ? 1 : 0, 1);
    }

    private static void fuzz() {
        Random r = new Random(29);
        for (int i = 0; i < 3000; i++) {
            HotAtSeven x = new HotAtSeven();
            int which = -1;
            try {
                for (int call = 0; call < 150; call++) {
                    if (r.nextInt(30) == 0) Due.read(x, PlainTest.book(r));
                    which = r.nextInt(34);
                    call(x, which, r);
                }
                DUE.is("no throw", 0, 0);
            } catch (RuntimeException thrown) {
                thrown.printStackTrace();
                DUE.is("call " + which + " throws", 1, 0);
            }
        }
    }

    private static int n(Random r) {
        return r.nextInt(4) == 0 ? ODD[r.nextInt(ODD.length)] : r.nextInt(4) == 0 ? r.nextInt(70) - 5 : r.nextInt(6);
    }

    private static int t(Random r) {
        return r.nextInt(6) == 0 ? n(r) : 1 + r.nextInt(60);
    }

    private static int call(HotAtSeven x, int which, Random r) {
        switch (which) {
            case 0: return x.sheet(n(r), n(r), n(r));
            case 1: return x.set(n(r), n(r), n(r));
            case 2: return x.copy(n(r), n(r), n(r), n(r), n(r));
            case 3: return x.drop(n(r));
            case 4: return x.feed(r.nextLong(), n(r));
            case 5: return r.nextInt(4) == 0 ? x.book() : 0;
            case 6: return x.fault();
            case 7: return x.dish(n(r), n(r));
            case 8: return x.step(n(r), n(r));
            case 9: return x.gives(n(r), n(r));
            case 10: return x.dinner(r.nextBoolean() ? n(r) : r.nextInt(256));
            case 11: return x.out(t(r));
            case 12: return x.judge(n(r), n(r), t(r));
            case 13: return x.least(t(r), n(r));
            case 14: return x.begins(t(r), n(r));
            case 15: return x.seven(t(r));
            case 16: return x.earliest();
            case 17: return x.heat(t(r), n(r));
            case 18: return x.wanted(t(r), n(r), n(r));
            case 19: return x.dinners(n(r), t(r), n(r));
            case 20: return x.more(t(r));
            case 21: return x.mend(t(r), n(r));
            case 22: return x.slack(t(r), n(r));
            case 23: return x.bears(t(r), n(r), n(r));
            case 24: return x.mind(t(r), n(r));
            case 25: return x.image(n(r));
            case 26: return x.restore(n(r));
            case 27: return x.kind(n(r));
            case 28: return x.as(n(r), n(r));
            case 29: return x.ask(n(r), n(r));
            case 30: return x.trace(n(r));
            case 31: return x.count(n(r));
            default: return x.status();
        }
    }
}
