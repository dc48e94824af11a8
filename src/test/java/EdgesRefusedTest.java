import java.util.ArrayList;
import java.util.List;
import java.util.function.Supplier;
import java.util.function.ToIntFunction;

/**
 * What is refused, or found, changes nothing but status(): of two objects made alike one is asked what it refuses,
 * then all that can be seen of both is held together. What only asks changes nothing either.
 */
public final class EdgesRefusedTest {
    private static final Due DUE = new Due("EdgesRefusedTest");
    private static final int BAD = HotAtSeven.BAD, STATE = HotAtSeven.STATE, FULL = HotAtSeven.FULL, NONE = HotAtSeven.NONE;
    private static final int NULL = -1000011, PLACE = -1000012, KIND = -1000013, SIZE = -1000014, STORE = -1000015;
    private static final int LEAST = Integer.MIN_VALUE, MOST = Integer.MAX_VALUE;
    private static final String OPEN_END = "kitchen 2 1 0 4 3 2 1;away 3 4;dish 1 7 1;ring 4 1 2 1;rest 2 0";

    public static void main(String[] args) {
        badWithBook();
        stateWithBook();
        badAheadOfState();
        stateWithoutBook();
        fullTape();
        findings();
        firstInTime();
        faultsChangeTheTapeAlone();
        asksChangeNothing();
        DUE.end();
    }

    // ---- objects in which much stands that could be lost

    private static HotAtSeven furnished() {
        HotAtSeven x = new HotAtSeven();
        Due.read(x, "kitchen 1 1 1 9 9 1 1;dish 0 3 0;hand 2 0;");
        x.image(1);
        Due.read(x, "kitchen 9");
        Due.read(x, "kitchen 1 2 2 3 2 2 3;away 5 6;away 30 31;dish 2 3 1;ring 4 1 1 1;keep 2 0 1;dish 1 0 0;oven 5 1 0 4 7;hand 2 1;rest 1 0;dish 0 9 1;ring 3 0 2 0;");
        x.image(0);
        x.dinner(0b011);
        lay(x);
        x.ask(1, 0);
        x.as(0, 5);
        return x;
    }

    private static HotAtSeven withRingOut() {
        HotAtSeven x = furnished();
        x.out(44);
        return x;
    }

    private static HotAtSeven bare() {
        HotAtSeven x = new HotAtSeven();
        Due.read(x, "kitchen 9");
        lay(x);
        x.set(0, 5, 1);
        return x;
    }

    private static HotAtSeven full() {
        HotAtSeven x = furnished();
        for (int i = OPEN_END.length(); i < 600; i++) x.feed(' ', 1);
        return x;
    }

    private static void lay(HotAtSeven x) {
        x.sheet(0, 0, 5);
        x.sheet(1, 1, 4);
        x.sheet(2, 2, 0);
        x.sheet(7, 0, 40);
        for (int i = 0; i < 5; i++) x.set(0, i, 11 + i);
        for (int i = 0; i < 4; i++) x.set(1, i, 21 + i);
        for (int i = 0; i < 40; i++) x.set(7, i, 59 - i);
        Due.feed(x, OPEN_END);
    }

    // ---- all that can be seen of one, the tape and the items at the cost of the book

    private static List<Integer> seen(HotAtSeven x) {
        List<Integer> all = new ArrayList<>();
        book(x, all);
        for (int i = 0; i < 6; i++) all.add(x.trace(i));
        all.add(x.fault());
        for (int k = 0; k < 2; k++) {
            all.add(x.restore(k));
            book(x, all);
        }
        all.add(x.feed(';', 1));
        all.add(x.book());
        book(x, all);
        Due.read(x, Due.RESTING);
        for (int s = 0; s < 8; s++) {
            for (int i = 0; i < 40; i++) all.add(Due.item(x, s, i));
            all.add(x.copy(s, 0, 0, 0, 0));
            all.add(x.drop(s));
        }
        return all;
    }

    private static void book(HotAtSeven x, List<Integer> all) {
        for (int w = 0; w < 8; w++) all.add(x.count(w));
        for (int d = 0; d < 8; d++) for (int w = 0; w < 6; w++) all.add(x.dish(d, w));
        for (int s = 0; s < 24; s++) for (int w = 0; w < 5; w++) all.add(x.step(s, w));
        for (int m = 0; m < 60; m++) for (int w = 0; w < 5; w++) all.add(x.gives(m, w));
        for (int t : new int[] {1, 9, 20, 33, 60}) {
            for (int k = -1; k < 4; k++) all.add(x.least(t, k));
            for (int k = 0; k < 12; k++) all.add(x.begins(t, k));
            for (int m = 0; m < 60; m += 5) all.add(x.heat(t, m));
            all.add(x.more(t));
            all.add(x.dinners(2, t, 0));
            all.add(x.mend(t, 7));
        }
        all.add(x.earliest());
    }

    /** An object, what it is asked, and what it answers; status() is due then. */
    private static void unchanged(Supplier<HotAtSeven> made, String call, ToIntFunction<HotAtSeven> ask, int answer) {
        HotAtSeven asked = made.get();
        HotAtSeven left = made.get();
        int before = left.status();
        DUE.is(call, ask.applyAsInt(asked), answer);
        boolean found = answer <= NULL && answer >= STORE;
        DUE.is("status behind " + call, asked.status(), found ? -1000010 - answer : before);
        List<Integer> a = seen(asked);
        List<Integer> b = seen(left);
        DUE.is(call + " changes nothing", a.equals(b) ? 0 : firstApart(a, b), 0);
    }

    private static int firstApart(List<Integer> a, List<Integer> b) {
        for (int i = 0; i < Math.min(a.size(), b.size()); i++) if (!a.get(i).equals(b.get(i))) return i + 1;
        return -1;
    }

    // ---- what is refused

    private static void badWithBook() {
        DUE.of("BAD (a number is not as told; there is no such thing)");
        badWith(EdgesRefusedTest::furnished);
    }

    private static void badWith(Supplier<HotAtSeven> made) {
        bad(made, "sheet 8", x -> x.sheet(8, 0, 1));
        bad(made, "sheet -1", x -> x.sheet(-1, 0, 1));
        bad(made, "sheet lane 3", x -> x.sheet(0, 3, 1));
        bad(made, "sheet lane -1", x -> x.sheet(0, -1, 1));
        bad(made, "sheet of 41", x -> x.sheet(0, 0, 41));
        bad(made, "set 8", x -> x.set(8, 0, 1));
        bad(made, "copy from 8", x -> x.copy(8, 0, 0, 0, 1));
        bad(made, "copy to -1", x -> x.copy(0, 0, -1, 0, 1));
        bad(made, "drop 8", x -> x.drop(8));
        bad(made, "feed 0", x -> x.feed(-1, 0));
        bad(made, "feed 9", x -> x.feed(-1, 9));
        bad(made, "dinner 0", x -> x.dinner(0));
        bad(made, "dinner 8", x -> x.dinner(8));
        bad(made, "dinner -1", x -> x.dinner(-1));
        bad(made, "out -1", x -> x.out(-1));
        bad(made, "out 61", x -> x.out(61));
        bad(made, "judge 8", x -> x.judge(8, 0, 20));
        bad(made, "judge by 0", x -> x.judge(0, 0, 0));
        bad(made, "judge by 61", x -> x.judge(0, 0, 61));
        bad(made, "least by 61", x -> x.least(61, 0));
        bad(made, "least -2", x -> x.least(20, -2));
        bad(made, "begins -1", x -> x.begins(20, -1));
        bad(made, "seven 0", x -> x.seven(0));
        bad(made, "heat 60", x -> x.heat(20, 60));
        bad(made, "wanted 4", x -> x.wanted(20, 0, 4));
        bad(made, "dinners h 4", x -> x.dinners(4, 20, 0));
        bad(made, "dinners what 2", x -> x.dinners(1, 20, 2));
        bad(made, "more 61", x -> x.more(61));
        bad(made, "mend at 60", x -> x.mend(20, 60));
        bad(made, "slack -1", x -> x.slack(20, -1));
        bad(made, "bears by 10", x -> x.bears(20, 0, 10));
        bad(made, "mind at -1", x -> x.mind(20, -1));
        bad(made, "image 2", x -> x.image(2));
        bad(made, "image -1", x -> x.image(-1));
        bad(made, "restore 2", x -> x.restore(2));
        bad(made, "dish 8", x -> x.dish(8, 0));
        bad(made, "step 24", x -> x.step(24, 0));
        bad(made, "kind 24", x -> x.kind(24));
        bad(made, "as 24", x -> x.as(24, 0));
        bad(made, "as kind 7", x -> x.as(0, 7));
        bad(made, "ask 24", x -> x.ask(24, 0));
        bad(made, "ask what 2", x -> x.ask(0, 2));
        bad(made, "count 8", x -> x.count(8));
    }

    private static void bad(Supplier<HotAtSeven> made, String call, ToIntFunction<HotAtSeven> ask) {
        unchanged(made, call, ask, BAD);
    }

    private static void stateWithBook() {
        DUE.of("STATE: no BOOK, no BIG RING (or one OUT is told)");
        unchanged(EdgesRefusedTest::withRingOut, "mend", x -> x.mend(20, 10), STATE);
        unchanged(EdgesRefusedTest::withRingOut, "mend, no plan", x -> x.mend(1, 10), STATE);
        DUE.of("STATE: no BOOK, no BIG ones.");
        Supplier<HotAtSeven> small = () -> {
            HotAtSeven x = furnished();
            x.book();
            Due.read(x, "kitchen 3 0 0 0 0 1 0;dish 0 0 0;ring 1 0 0 0;");
            return x;
        };
        unchanged(small, "out 0", x -> x.out(0), STATE);
        unchanged(small, "out 60", x -> x.out(60), STATE);
        unchanged(small, "mend", x -> x.mend(20, 10), STATE);
    }

    private static void badAheadOfState() {
        DUE.of("Refusals are answers, the first of these that fits, but as told: BAD");
        Supplier<HotAtSeven> made = EdgesRefusedTest::bare;
        unchanged(made, "gives, as told", x -> x.gives(-1, 9), STATE);
        ToIntFunction<HotAtSeven> gives = x -> x.gives(0, 5);
        unchanged(made, "gives, as told", gives, STATE);
        badWith(made);
    }

    private static void stateWithoutBook() {
        DUE.of("STATE (as told)");
        Supplier<HotAtSeven> made = EdgesRefusedTest::bare;
        state(made, "gives", x -> x.gives(0, 0));
        state(made, "out 0", x -> x.out(0));
        state(made, "out 60", x -> x.out(60));
        state(made, "judge", x -> x.judge(0, 0, 20));
        state(made, "judge, missing", x -> x.judge(3, 0, 20));
        state(made, "judge, no such place", x -> x.judge(0, 9, 20));
        state(made, "least", x -> x.least(20, -1));
        state(made, "begins", x -> x.begins(20, 0));
        state(made, "seven", x -> x.seven(20));
        state(made, "earliest", HotAtSeven::earliest);
        state(made, "heat", x -> x.heat(20, 0));
        state(made, "wanted", x -> x.wanted(20, 0, 0));
        state(made, "dinners", x -> x.dinners(1, 20, 0));
        state(made, "more", x -> x.more(20));
        state(made, "mend", x -> x.mend(20, 0));
        state(made, "slack", x -> x.slack(20, 0));
        state(made, "bears", x -> x.bears(20, 0, 1));
        state(made, "mind", x -> x.mind(20, 0));
        state(made, "image 0", x -> x.image(0));
        state(made, "image 1", x -> x.image(1));
        state(made, "restore 0", x -> x.restore(0));
        state(made, "restore 1", x -> x.restore(1));
    }

    private static void state(Supplier<HotAtSeven> made, String call, ToIntFunction<HotAtSeven> ask) {
        unchanged(made, call, ask, STATE);
    }

    private static void fullTape() {
        DUE.of("BAD: n; FULL: none comes.");
        for (int n = 1; n <= 8; n++) {
            int many = n;
            unchanged(EdgesRefusedTest::full, "feed " + n, x -> x.feed(-1, many), FULL);
        }
        unchanged(EdgesRefusedTest::full, "feed 0", x -> x.feed(-1, 0), BAD);
        unchanged(EdgesRefusedTest::full, "feed 9", x -> x.feed(-1, 9), BAD);
    }

    private static void findings() {
        DUE.of("What is refused, or found, changes nothing but status().");
        Supplier<HotAtSeven> made = EdgesRefusedTest::furnished;
        unchanged(made, "sheet of fewer than none", x -> x.sheet(0, 2, -1), SIZE);
        unchanged(made, "a missing sheet of fewer than none", x -> x.sheet(3, 2, LEAST), SIZE);
        unchanged(made, "set, missing", x -> x.set(3, 0, 1), NULL);
        unchanged(made, "set behind", x -> x.set(0, 5, 1), PLACE);
        unchanged(made, "set ahead", x -> x.set(0, -1, 1), PLACE);
        unchanged(made, "copy, missing", x -> x.copy(0, 0, 3, 0, 1), NULL);
        unchanged(made, "copy, two lanes", x -> x.copy(0, 0, 1, 0, 1), STORE);
        unchanged(made, "copy one too many", x -> x.copy(7, 0, 0, 1, 5), PLACE);
        unchanged(made, "copy one too far on", x -> x.copy(0, 1, 7, 0, 5), PLACE);
        unchanged(made, "copy fewer than none", x -> x.copy(7, 0, 0, 1, -1), PLACE);
        unchanged(made, "copy far too many", x -> x.copy(7, 1, 0, 1, MOST), PLACE);
        unchanged(made, "drop, missing", x -> x.drop(3), NULL);
        unchanged(made, "judge, missing", x -> x.judge(3, 0, 20), NULL);
        unchanged(made, "judge, too few", x -> x.judge(0, 1, 20), PLACE);
        unchanged(made, "judge from -1 on", x -> x.judge(7, -1, 20), PLACE);
        unchanged(made, "as what it is not", x -> x.as(0, 2), KIND);
    }

    private static void firstInTime() {
        DUE.of("then FINDINGS, of several the first in time");
        Supplier<HotAtSeven> made = EdgesRefusedTest::furnished;
        unchanged(made, "set: NULL, PLACE", x -> x.set(3, -1, 1), NULL);
        unchanged(made, "copy: NULL, STORE, PLACE", x -> x.copy(3, -1, 1, -1, -1), NULL);
        unchanged(made, "copy: NULL, PLACE", x -> x.copy(1, -1, 3, 0, 1), NULL);
        unchanged(made, "copy: STORE, PLACE", x -> x.copy(0, -1, 1, 9, 50), STORE);
        unchanged(made, "judge: NULL, PLACE", x -> x.judge(3, -1, 20), NULL);
        unchanged(made, "sheet: BAD, SIZE", x -> x.sheet(0, 3, -1), BAD);
        unchanged(made, "set: BAD, NULL, PLACE", x -> x.set(8, -1, 1), BAD);
        unchanged(made, "copy: BAD, NULL", x -> x.copy(3, -1, 8, 0, 1), BAD);
        unchanged(made, "judge: BAD, NULL", x -> x.judge(3, -1, 61), BAD);
        unchanged(made, "as: BAD, KIND", x -> x.as(24, 2), BAD);
        unchanged(made, "out: BAD ahead of STATE", x -> x.out(61), BAD);
    }

    /** A fault is no refusal: the tape is empty then, and fault() another; nothing else changes. */
    private static void faultsChangeTheTapeAlone() {
        DUE.of("-1000100 less the place of a FAULT: the BOOK stays.");
        Supplier<HotAtSeven> emptied = () -> {
            HotAtSeven x = furnished();
            x.book();
            return x;
        };
        String[] texts = {"", "boil", "kitchen 3 3 3 9 9 3 9;away 0 59;dish 2 9 1;hand 30 1;hand 30 1;hand 30 1;hand", OPEN_END};
        int[] places = {0, 0, texts[2].length() - 4, OPEN_END.length()};
        for (int i = 0; i < texts.length; i++) {
            String text = texts[i];
            Supplier<HotAtSeven> made = () -> {
                HotAtSeven x = emptied.get();
                Due.read(x, text);
                return x;
            };
            unchanged(made, "the same fault again", x -> Due.read(x, text), -1000100 - places[i]);
        }
    }

    private static void asksChangeNothing() {
        DUE.of("Nothing is promised beyond the answers and state changes described above");
        Supplier<HotAtSeven> made = EdgesRefusedTest::furnished;
        for (int t : new int[] {1, 20, 60}) {
            int by = t;
            List<ToIntFunction<HotAtSeven>> asks = List.of(x -> x.least(by, -1), x -> x.begins(by, 0), x -> x.seven(by), x -> x.earliest(),
                x -> x.heat(by, 9), x -> x.wanted(by, 9, 1), x -> x.dinners(3, by, 1), x -> x.more(by), x -> x.mend(by, 9), x -> x.slack(by, 0));
            for (int i = 0; i < asks.size(); i++) unchanged(made, "ask " + i + " by " + t, asks.get(i), asks.get(i).applyAsInt(made.get()));
            unchanged(made, "bears", x -> x.bears(by, 0, 9), made.get().bears(by, 0, 9));
            unchanged(made, "mind", x -> x.mind(by, 9), made.get().mind(by, 9));
        }
        unchanged(made, "trace", x -> x.trace(16), NONE);
        unchanged(made, "kind", x -> x.kind(0), 1);
        unchanged(made, "fault", HotAtSeven::fault, 2);
        unchanged(made, "status", HotAtSeven::status, 3);
    }
}
