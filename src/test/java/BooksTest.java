import java.util.Random;

/** Promises 6 to 13, 27, 28 and 33: feed, book, fault, dish, step, gives, dinner, out, image, restore, count. */
public final class BooksTest {
    private static final Due DUE = new Due("BooksTest");
    private static final String KITCHEN = "kitchen 1 1 1 3 2 1 2;";
    private static final String HEAD = KITCHEN + "dish 0 0 0;";
    private static final String HAND = "hand 1 0;";

    public static void main(String[] args) {
        feed();
        good();
        faults();
        room();
        bookStays();
        told();
        gives();
        dinner();
        out();
        images();
        mutated();
        DUE.end();
    }

    private static void feed() {
        HotAtSeven x = new HotAtSeven();
        DUE.is("n 0", x.feed(0, 0), HotAtSeven.BAD);
        DUE.is("n -1", x.feed(0, -1), HotAtSeven.BAD);
        DUE.is("n 9", x.feed(0, 9), HotAtSeven.BAD);
        for (int i = 1; i <= 74; i++) DUE.is("feed " + i, x.feed(0x2020202020202020L, 8), 8 * i);
        DUE.is("to 599", x.feed(0x20202020202020L, 7), 599);
        DUE.is("full", x.feed(0x2020, 2), HotAtSeven.FULL);
        DUE.is("none came", x.count(6), 599);
        DUE.is("n ahead of full", x.feed(0, 9), HotAtSeven.BAD);
        DUE.is("the last", x.feed(0x20, 1), 600);
        DUE.is("full", x.feed(0x20, 1), HotAtSeven.FULL);
        DUE.is("the end is behind all", x.book(), -1000700);
        DUE.is("empty then", x.count(6), 0);
        // Only the lowest bytes come, the highest of them first.
        for (char c : KITCHEN.toCharArray()) x.feed(0x6161616161616100L | c, 1);
        x.feed(0x6161616164697368L, 4);
        Due.feed(x, " 0 0 0;hand 1 0;");
        DUE.is("byte by byte", x.book(), 1);
        DUE.is("negative", x.feed(-1L, 3), 3);
        DUE.is("bytes 255", x.book(), -1000100);
        DUE.is("are no token", x.fault(), 1);
    }

    private static void good() {
        DUE.reads(HEAD + HAND, 1);
        DUE.reads(" \n" + HEAD + "\n\n " + HAND + " \n", 1);
        DUE.reads("kitchen 01 1 1 03 2 1 2 ;\ndish 0 0 00;\nhand 30 0;", 1);
        DUE.reads("kitchen 3 3 3 9 9 3 9;away 0 59;away 59 59;away 0 0;away 5 7;dish 2 9 1;ring 30 1 2 1;oven 30 1 2 9 9;keep 30 1 9;", 1);
        DUE.reads("kitchen 0 0 0 0 0 1 0;dish 0 0 0;oven 1 0 0 0 0;", 1);
        DUE.reads(HEAD + "hand 1 0;hand 1 0;hand 1 0;dish 1 1 1;rest 1 0;", 2);
        DUE.reads("kitchen1 1 1 3 2 1 2;dish0 0 0;hand1 0;", 1);
    }

    private static void faults() {
        DUE.fails("", 0, 1);
        DUE.fails("  \n", 3, 1);
        DUE.fails("kitchens 1 1 1 3 2 1 2;", 0, 1);
        DUE.fails("Kitchen 1 1 1 3 2 1 2;", 0, 1);
        DUE.fails("kitcheN 1 1 1 3 2 1 2;", 0, 1);
        DUE.fails("kitchen\t1 1 1 3 2 1 2;", 7, 1);
        DUE.fails(" dish 0 0 0;", 1, 1);
        DUE.fails("kitchen 1 1 1 3 2 1;", 19, 1);
        DUE.fails("kitchen 1 1 1 3 2 1 2 0;", 22, 1);
        DUE.fails("kitchen 1 4 1 3 2 1 2;", 10, 2);
        DUE.fails("kitchen 1 1 4 3 2 1 2;", 12, 2);
        DUE.fails("kitchen 1 1 1 10 2 1 2;", 14, 2);
        DUE.fails("kitchen 1 1 1 3 10 1 2;", 16, 2);
        DUE.fails("kitchen 1 1 1 3 2 1 10;", 20, 2);
        DUE.fails("kitchen 1 1 1 003 2 1 2;", 14, 1);
        DUE.fails("kitchen 1 1 1 -3 2 1 2;", 14, 1);
        DUE.fails("kitchen 4 x", 8, 2);
        DUE.fails(KITCHEN + "away 60 60;", 27, 2);
        DUE.fails(KITCHEN + "away 5;", 28, 1);
        DUE.fails(KITCHEN + "away 5 dish", 29, 1);
        DUE.fails(KITCHEN + HAND, 22, 1);
        DUE.fails(KITCHEN + ";", 22, 1);
        DUE.fails(KITCHEN + "kitchen", 22, 1);
        DUE.fails(KITCHEN + "dish 0 10 0;", 29, 2);
        DUE.fails(HEAD + "dish 0 0 0;", 33, 1);
        DUE.fails(HEAD + "away 1 2;", 33, 1);
        DUE.fails(HEAD + HAND + "away 1 2;", 42, 1);
        DUE.fails(HEAD + HAND + "5", 42, 1);
        DUE.fails(HEAD + HAND + "kitchen", 42, 1);
        DUE.fails(HEAD + "keep 1 0 10;", 42, 2);
        DUE.fails(HEAD + "rest 1 0 0;", 42, 1);
        DUE.fails(HEAD + "hand 1 0 2;", 42, 1);
        DUE.fails(HEAD + "oven 1 0 3 0 0;", 42, 2);
        DUE.fails(HEAD + "oven 1 0 0 9 10;", 46, 2);
        DUE.fails(HEAD + "oven 1 0 0 9;", 45, 1);
        DUE.fails(HEAD + "ring 1 0 0 2;", 44, 2);
        DUE.fails(HEAD + "ring 1 0 0;", 43, 1);
        DUE.fails(HEAD + "ring 99 0 0 0;", 38, 2);
        DUE.fails(HEAD + "hand 1 0", 41, 1);
        DUE.fails(HEAD + "hand 1 0  ", 43, 1);
        DUE.fails(HEAD + "hand 1 0;.", 42, 1);
    }

    private static void room() {
        String away = "away 1 2;";
        DUE.fails(KITCHEN + away + away + away + away + away, 58, 3);
        DUE.fails(KITCHEN + away + away + away + away + " away", 59, 3);
        DUE.fails(KITCHEN + away + away + away + away + "aways", 58, 1);
        DUE.fails(HEAD + HAND + HAND + HAND + HAND, 60, 3);
        DUE.fails(HEAD + HAND + HAND + HAND + "keep", 60, 3);
        DUE.fails(HEAD + HAND + HAND + HAND + "boil", 60, 1);
        StringBuilder eight = new StringBuilder(KITCHEN);
        for (int i = 0; i < 8; i++) eight.append("dish 0 0 0;" + HAND + HAND + HAND);
        DUE.reads(eight.toString(), 8);
        DUE.fails(eight + "dish", eight.length(), 3);
        DUE.fails(eight + HAND, eight.length(), 3);
        DUE.fails(eight + "dishes", eight.length(), 1);
        HotAtSeven x = new HotAtSeven();
        Due.read(x, eight.toString());
        DUE.is("24 steps", x.count(2), 24);
        DUE.is("the last", x.step(23, 0), 1);
        DUE.is("no more", x.step(24, 0), HotAtSeven.BAD);
    }

    private static void bookStays() {
        HotAtSeven x = new HotAtSeven();
        Due.read(x, "kitchen 2 3 1 3 2 3 2;away 4 5;dish 1 2 0;ring 2 1 0 1;dish 0 0 0;rest 3 0;");
        x.dinner(2);
        x.out(9);
        DUE.is("a fault", Due.read(x, "kitchen 0 0 0 0 0 1 0;away 1 1;dish 0 0 0;rest 1 0;dish 0 0 0;x"), -1000162);
        DUE.is("its number", x.fault(), 1);
        int[] counts = {0, 2, 2, 1, 1, 1, 0, 9};
        for (int w = 0; w < 8; w++) DUE.is("count " + w, x.count(w), counts[w]);
        DUE.is("dish", x.dish(0, 0), 1);
        DUE.is("gives", x.gives(0, 0), 5);
        DUE.is("a book in its place", Due.read(x, "kitchen 0 1 0 0 0 1 0;dish 0 0 0;rest 1 0;"), 1);
        DUE.is("the latest fault", x.fault(), 1);
        int[] anew = {0, 1, 1, 1, 1, 0, 0, 60};
        for (int w = 0; w < 8; w++) DUE.is("count " + w, x.count(w), anew[w]);
        DUE.is("dinner is dish 0", x.begins(7, 0), 6);
        DUE.is("another fault", Due.read(x, "kitchen 9"), -1000108);
        DUE.is("its number", x.fault(), 2);
    }

    private static void told() {
        HotAtSeven x = new HotAtSeven();
        Due.read(x, "kitchen 1 2 3 4 5 3 7;dish 2 9 1;ring 30 1 2 1;oven 29 1 1 3 8;hand 5 1;dish 0 4 0;rest 6 0;keep 7 1 9;");
        int[][] dishes = {{2, 9, 1, 3, 0, 12}, {0, 4, 0, 2, 3, 1}};
        for (int d = 0; d < 2; d++)
            for (int w = 0; w < 6; w++) DUE.is("dish " + d + " " + w, x.dish(d, w), dishes[d][w]);
        int none = HotAtSeven.NONE;
        int[][] steps = {{30, 1, 2, 1, none}, {29, 1, 1, 3, 8}, {5, 1, 2, none, none}, {6, 0, 0, none, none}, {7, 1, 0, 9, none}};
        for (int s = 0; s < 5; s++)
            for (int w = 0; w < 5; w++) DUE.is("step " + s + " " + w, x.step(s, w), steps[s][w]);
        DUE.is("dish -1", x.dish(-1, 0), HotAtSeven.BAD);
        DUE.is("dish 2", x.dish(2, 0), HotAtSeven.BAD);
        DUE.is("dish what", x.dish(0, -1), HotAtSeven.BAD);
        DUE.is("dish what", x.dish(0, 6), HotAtSeven.BAD);
        DUE.is("step -1", x.step(-1, 0), HotAtSeven.BAD);
        DUE.is("step 5", x.step(5, 0), HotAtSeven.BAD);
        DUE.is("step what", x.step(0, -1), HotAtSeven.BAD);
        DUE.is("step what", x.step(0, 5), HotAtSeven.BAD);
        DUE.is("count -1", x.count(-1), HotAtSeven.BAD);
        DUE.is("count 8", x.count(8), HotAtSeven.BAD);
        // The wait behind the last step makes no choice.
        Due.read(x, HEAD + "hand 1 1;");
        DUE.is("one choice", x.dish(0, 5), 1);
    }

    private static void gives() {
        HotAtSeven x = new HotAtSeven();
        DUE.is("state ahead of bad", x.gives(-1, 9), HotAtSeven.STATE);
        Due.read(x, "kitchen 3 2 1 0 0 2 9;away 5 6;away 6 7;away 6 6;away 59 59;dish 0 0 0;rest 1 0;");
        int[][] hands = {{0, 2}, {4, 2}, {5, 1}, {6, 0}, {7, 1}, {8, 2}, {58, 2}, {59, 1}};
        for (int[] h : hands) DUE.is("hands " + h[0], x.gives(h[0], 3), h[1]);
        x.out(6);
        int[][] rings = {{0, 5, 2}, {5, 5, 2}, {6, 4, 1}, {59, 4, 1}};
        for (int[] r : rings) {
            DUE.is("rings " + r[0], x.gives(r[0], 0), r[1]);
            DUE.is("big " + r[0], x.gives(r[0], 1), r[2]);
            DUE.is("shelves " + r[0], x.gives(r[0], 2), 1);
            DUE.is("pans " + r[0], x.gives(r[0], 4), 9);
        }
        DUE.is("minute -1", x.gives(-1, 0), HotAtSeven.BAD);
        DUE.is("minute 60", x.gives(60, 0), HotAtSeven.BAD);
        DUE.is("what -1", x.gives(0, -1), HotAtSeven.BAD);
        DUE.is("what 5", x.gives(0, 5), HotAtSeven.BAD);
    }

    private static void dinner() {
        HotAtSeven x = new HotAtSeven();
        StringBuilder text = new StringBuilder(KITCHEN);
        for (int i = 0; i < 6; i++) text.append("dish 0 0 0;" + (i % 2 == 0 ? HAND : HAND + HAND));
        DUE.is("no book", x.dinner(1), HotAtSeven.BAD);
        Due.read(x, text.toString());
        DUE.is("one", x.dinner(32), 1);
        DUE.is("its steps", x.count(4), 2);
        DUE.is("four", x.dinner(0b101011), 4);
        DUE.is("dishes", x.count(3), 4);
        DUE.is("steps", x.count(4), 7);
        int[] bad = {0, 31, 63, 64, 65, 128, -1, Integer.MIN_VALUE, Integer.MIN_VALUE | 1, 1 << 8};
        for (int b : bad) DUE.is("dinner " + b, x.dinner(b), HotAtSeven.BAD);
        DUE.is("stays", x.count(4), 7);
    }

    private static void out() {
        HotAtSeven x = new HotAtSeven();
        DUE.is("bad ahead of state", x.out(61), HotAtSeven.BAD);
        DUE.is("no book", x.out(60), HotAtSeven.STATE);
        Due.read(x, "kitchen 3 0 1 0 0 2 9;dish 0 0 0;rest 1 0;");
        DUE.is("no big ones", x.out(5), HotAtSeven.STATE);
        DUE.is("no big ones", x.out(60), HotAtSeven.STATE);
        DUE.is("none is out", x.count(7), 60);
        Due.read(x, "kitchen 0 1 1 0 0 2 9;dish 0 0 0;rest 1 0;");
        DUE.is("out 0", x.out(0), 1);
        DUE.is("count", x.count(7), 0);
        DUE.is("no big ones then", x.gives(0, 1), 0);
        DUE.is("no rings then", x.gives(0, 0), 0);
        DUE.is("told again", x.out(59), 1);
        DUE.is("count", x.count(7), 59);
        DUE.is("bad", x.out(-1), HotAtSeven.BAD);
        DUE.is("not any more", x.out(60), 1);
        DUE.is("count", x.count(7), 60);
    }

    private static void images() {
        HotAtSeven x = new HotAtSeven();
        DUE.is("no book", x.image(0), HotAtSeven.STATE);
        DUE.is("bad ahead of state", x.image(2), HotAtSeven.BAD);
        DUE.is("none kept", x.restore(1), HotAtSeven.STATE);
        Due.read(x, "kitchen 0 1 1 0 0 2 9;away 1 1;dish 1 3 0;ring 2 0 0 1;dish 0 0 0;rest 1 0;");
        x.dinner(3);
        x.out(30);
        x.sheet(0, 0, 1);
        DUE.is("image 1", x.image(1), 1);
        DUE.is("none kept", x.restore(0), HotAtSeven.STATE);
        DUE.is("least", x.least(40, -1), HotAtSeven.NONE);
        x.out(60);
        DUE.is("least", x.least(40, -1), 0);
        DUE.is("image 0", x.image(0), 1);
        Due.read(x, "kitchen 3 3 3 9 9 3 9;dish 0 0 0;keep 5 0 2;");
        DUE.is("least", x.least(40, -1), 10);
        Due.feed(x, "kit");
        x.drop(0);
        DUE.is("restore 1", x.restore(1), 1);
        int[] counts = {0, 2, 2, 2, 2, 1, 3, 30};
        for (int w = 0; w < 8; w++) DUE.is("count " + w, x.count(w), counts[w]);
        DUE.is("least", x.least(40, -1), HotAtSeven.NONE);
        DUE.is("dish", x.dish(0, 1), 3);
        x.dinner(2);
        x.out(60);
        DUE.is("restored again", x.restore(1), 1);
        DUE.is("an image stays as kept", x.count(3), 2);
        DUE.is("an image stays as kept", x.count(7), 30);
        DUE.is("restore 0", x.restore(0), 1);
        DUE.is("count 7", x.count(7), 60);
        DUE.is("least", x.least(40, -1), 0);
        DUE.is("bad", x.restore(-1), HotAtSeven.BAD);
        DUE.is("bad", x.restore(2), HotAtSeven.BAD);
        DUE.is("bad", x.image(-1), HotAtSeven.BAD);
    }

    /** Good texts with a byte or a word spoiled, held against the plain reading. */
    private static void mutated() {
        String[] bits = {" ", "\n", ";", "0", "1", "9", "60", "100", "a", "away 1 2;", "dish 0 0 0;", "ring", "oven 1 0 0 3 4;",
            "keep", "hand 1 0;", "rest 2 1;", "kitchen", "A", "-", "\u00e9", "dish", "\0", "x;"};
        Random r = new Random(19);
        for (int i = 0; i < 6000; i++) {
            StringBuilder text = new StringBuilder(PlainTest.book(r));
            for (int n = r.nextInt(3); n >= 0; n--) {
                int at = r.nextInt(text.length());
                int cut = Math.min(text.length(), at + r.nextInt(3));
                text.replace(at, cut, r.nextBoolean() ? bits[r.nextInt(bits.length)] : "");
            }
            if (text.length() == 0 || text.length() > 600) continue;
            Plain p = new Plain();
            HotAtSeven x = new HotAtSeven();
            boolean good = p.read(text.toString());
            DUE.is("mutated " + text, Due.read(x, text.toString()), good ? p.dishes.size() : -1000100 - p.place);
            DUE.is("its fault " + text, x.fault(), good ? 0 : p.fault);
        }
    }
}
