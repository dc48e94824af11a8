/** Promises 6 to 8 at their boundaries, sentence by sentence: the tape, its TOKENS, the text, its FAULTS. */
public final class EdgesTextsTest {
    private static final Due DUE = new Due("EdgesTextsTest");
    private static final int BAD = HotAtSeven.BAD, FULL = HotAtSeven.FULL;
    private static final String KITCHEN = "kitchen 1 1 1 3 2 1 2;";
    private static final String AWAY = "away 1 2;";
    private static final String DISH = "dish 0 0 0;";
    private static final String HAND = "hand 1 0;";
    private static final String[] WORDS = {"ring", "oven", "hand", "rest", "keep"};

    public static void main(String[] args) {
        manyBytesAtOnce();
        highestFirst();
        tapeEnds();
        tapeEndsWithinAWord();
        wholeTapeIsRead();
        emptyThen();
        letters();
        figures();
        twoFigures();
        signs();
        between();
        nothingBetween();
        kitchenNumbers();
        awayNumbers();
        tillNoLess();
        manyAways();
        manyDishes();
        dishNumbers();
        stepNumbers();
        highNoLess();
        manySteps();
        stepsOfAll();
        numbersTooFewOrMany();
        inPlaceOfTheOneBefore();
        inPlaceOfMany();
        dinnerIsDishNought();
        firstToken();
        itsFirstByte();
        leastOfOneToken();
        numbersNotAsTold();
        atTheEnd();
        wordsThatAreCutOff();
        wordsLetterByLetter();
        endOfTheTapeAndBytesOfOld();
        roomByItsWord();
        bookStays();
        latestFault();
        DUE.end();
    }

    // ---- the tape

    private static void manyBytesAtOnce() {
        DUE.of("The lowest n bytes of w (1 to 8)");
        HotAtSeven x = new HotAtSeven();
        int has = 0;
        for (int n = 1; n <= 8; n++) {
            has += n;
            DUE.is("n " + n, x.feed(0, n), has);
        }
        for (int n : new int[] {0, 9, -1, Integer.MIN_VALUE, Integer.MAX_VALUE}) DUE.is("n " + n, x.feed(0, n), BAD);
        DUE.is("how many", x.count(6), has);
    }

    private static void highestFirst() {
        DUE.of("the highest of them first, come behind the tape: how many it has.");
        String text = KITCHEN + DISH + HAND;
        for (int n = 1; n <= 8; n++) {
            HotAtSeven x = new HotAtSeven();
            int last = 0;
            for (int at = 0; at < text.length(); at += n) {
                // Bytes above the lowest n are there to be left out.
                long w = -1;
                int many = Math.min(n, text.length() - at);
                for (int i = 0; i < many; i++) w = w << 8 | text.charAt(at + i);
                last = x.feed(w, many);
            }
            DUE.is("by " + n, last, text.length());
            DUE.is("by " + n + ", read", x.book(), 1);
        }
    }

    private static HotAtSeven filled(int bytes) {
        HotAtSeven x = new HotAtSeven();
        for (int i = 0; i < bytes; i++) x.feed(' ', 1);
        DUE.is("how many", x.count(6), bytes);
        return x;
    }

    private static void tapeEnds() {
        DUE.of("THE TAPE has at most 600 bytes");
        for (int n = 1; n <= 8; n++) {
            HotAtSeven x = filled(600 - n);
            DUE.is("the last " + n, x.feed(0x2020202020202020L, n), 600);
            x = filled(601 - n);
            DUE.is("one more than the last " + n, x.feed(0x2020202020202020L, n), FULL);
        }
        HotAtSeven x = filled(600);
        DUE.is("n 9 on a full tape", x.feed(0, 9), BAD);
        DUE.is("n 0 on a full tape", x.feed(0, 0), BAD);
    }

    private static void tapeEndsWithinAWord() {
        DUE.of("FULL: none comes.");
        String text = KITCHEN + DISH + "hand 1 ";
        StringBuilder padded = new StringBuilder(text);
        while (padded.length() < 598) padded.insert(0, ' ');
        HotAtSeven x = new HotAtSeven();
        Due.feed(x, padded.toString());
        // Were the first of these to come, the text would not end as it does.
        DUE.is("three more", x.feed('9' << 16 | '9' << 8 | '9', 3), FULL);
        DUE.is("how many", x.count(6), 598);
        DUE.is("two more", x.feed('0' << 8 | ';', 2), 600);
        DUE.is("read", x.book(), 1);
    }

    private static void wholeTapeIsRead() {
        DUE.of("THE TAPE has at most 600 bytes");
        StringBuilder text = new StringBuilder(KITCHEN + DISH + "hand 1 0");
        while (text.length() < 599) text.append(' ');
        DUE.reads(text + ";", 1);
        DUE.fails(text + "x", 599, 1);
        DUE.fails(text + " ", 600, 1);
        DUE.fails(text.toString(), 599, 1);
    }

    private static void emptyThen() {
        DUE.of("The tape, empty then, is read");
        HotAtSeven x = new HotAtSeven();
        Due.feed(x, "kitchen 1");
        DUE.is("a fault", x.book(), -1000109);
        DUE.is("empty", x.count(6), 0);
        Due.feed(x, KITCHEN + DISH + HAND);
        DUE.is("read", x.book(), 1);
        DUE.is("empty", x.count(6), 0);
        DUE.is("nothing is there", x.book(), -1000100);
        DUE.is("from the beginning on", x.feed('k', 1), 1);
        x.book();
        for (int i = 1; i <= 75; i++) DUE.is("room for all again", x.feed(0, 8), 8 * i);
    }

    // ---- tokens

    private static void letters() {
        DUE.of("NAMES (letters a to z)");
        String rest = " 1 1 1 3 2 1 2;" + DISH + HAND;
        DUE.reads("kitchen" + rest, 1);
        // A letter behind the word makes another name of it; another sign is a token of its own.
        DUE.fails("kitchena" + rest, 0, 1);
        DUE.fails("kitchenz" + rest, 0, 1);
        DUE.fails("kitchen`" + rest, 7, 1);
        DUE.fails("kitchen{" + rest, 7, 1);
        DUE.fails("kitchenA" + rest, 7, 1);
        DUE.fails("kitchenZ" + rest, 7, 1);
        DUE.fails("akitchen" + rest, 0, 1);
        DUE.fails("kitchem" + rest, 0, 1);
        DUE.fails("kitche" + rest, 0, 1);
        DUE.fails("KITCHEN" + rest, 0, 1);
    }

    private static void figures() {
        DUE.of("NUMBERS (figures, 2 at most)");
        String rest = " 1 1 3 2 1 2;" + DISH + HAND;
        DUE.reads("kitchen 0" + rest, 1);
        DUE.fails("kitchen 9" + rest, 8, 2);
        DUE.fails("kitchen /" + rest, 8, 1);
        DUE.fails("kitchen :" + rest, 8, 1);
        DUE.fails("kitchen 1/" + rest, 9, 1);
        DUE.fails("kitchen 1:" + rest, 9, 1);
        DUE.fails("kitchen -1" + rest, 8, 1);
        DUE.fails("kitchen +1" + rest, 8, 1);
    }

    private static void twoFigures() {
        DUE.of("NUMBERS (figures, 2 at most)");
        DUE.reads(KITCHEN + DISH + "hand 30 00;", 1);
        DUE.reads("kitchen 01 01 01 03 02 01 02;" + DISH + "hand 01 0;", 1);
        DUE.fails(KITCHEN + DISH + "hand 030 0;", 38, 1);
        DUE.fails(KITCHEN + DISH + "hand 001 0;", 38, 1);
        DUE.fails(KITCHEN + DISH + "hand 1 000;", 40, 1);
        DUE.fails(KITCHEN + DISH + "hand 99 0;", 38, 2);
        DUE.fails(KITCHEN + DISH + "hand 999 0;", 38, 1);
        // As many figures as make 1 again in an int.
        DUE.fails(KITCHEN + DISH + "hand 4294967297 0;", 38, 1);
        DUE.fails(KITCHEN + DISH + "hand 1 0 000;", 42, 1);
    }

    private static void signs() {
        DUE.of("SIGNS ; bytes 32 and 10 between");
        DUE.reads(KITCHEN + DISH + "hand 1 0;", 1);
        DUE.fails(KITCHEN + DISH + "hand 1 0:", 41, 1);
        DUE.fails(KITCHEN + DISH + "hand 1 0<", 41, 1);
        DUE.fails(KITCHEN + DISH + "hand 1 0,", 41, 1);
        DUE.fails(KITCHEN + DISH + "hand 1 0;;", 42, 1);
        DUE.fails(";" + KITCHEN + DISH + HAND, 0, 1);
        DUE.fails("kitchen;" + KITCHEN, 7, 1);
    }

    private static void between() {
        DUE.of("bytes 32 and 10 between");
        for (int b = 0; b < 256; b++) {
            String text = "kitchen" + (char) b + "1 1 1 3 2 1 2;" + DISH + HAND;
            // A letter makes another name, a figure another number: 01 is 1, 11 and on is none of 0 to 3.
            boolean letter = b >= 'a' && b <= 'z';
            boolean figure = b >= '1' && b <= '9';
            if (b == 32 || b == 10 || b == '0') DUE.reads(text, 1);
            else DUE.fails(text, letter ? 0 : 7, figure ? 2 : 1);
        }
    }

    /** Tokens that can be told apart need nothing between them. */
    private static void nothingBetween() {
        DUE.of("bytes 32 and 10 between");
        DUE.reads("kitchen1 1 1 3 2 1 2;dish0 0 0;hand1 0;", 1);
        DUE.reads("\n \nkitchen \n 1\n1\n1  3 2 1 2 ;\n\n" + DISH + HAND + "\n \n", 1);
        DUE.fails("kitchen1 1 1 3 2 1 2;dish0 0 0;hand1 0dish", 38, 1);
        DUE.fails("kit chen 1 1 1 3 2 1 2;", 0, 1);
        DUE.fails(KITCHEN + DISH + "hand 3 0 0;", 42, 1);
    }

    // ---- the text

    /** A text with one of its numbers at its ends, and one beyond; %s stands for the number. */
    private static void number(String text, int least, int most) {
        int place = text.indexOf("%s");
        DUE.reads(text.replace("%s", "" + least), 1);
        DUE.reads(text.replace("%s", "" + most), 1);
        DUE.fails(text.replace("%s", "" + (most + 1)), place, 2);
        DUE.fails(text.replace("%s", "99"), place, 2);
        if (least > 0) DUE.fails(text.replace("%s", "" + (least - 1)), place, 2);
        DUE.fails(text.replace("%s", "x"), place, 1);
        DUE.fails(text.replace("%s", ";"), place, 1);
    }

    private static void kitchenNumbers() {
        DUE.of("(0 to 3 each of SMALL, BIG, SHELVES; WARMS, COOLS 0 to 9; HANDS 1 to 3; PANS 0 to 9)");
        String rest = ";" + DISH + HAND;
        number("kitchen %s 1 1 3 2 1 2" + rest, 0, 3);
        number("kitchen 1 %s 1 3 2 1 2" + rest, 0, 3);
        number("kitchen 1 1 %s 3 2 1 2" + rest, 0, 3);
        number("kitchen 1 1 1 %s 2 1 2" + rest, 0, 9);
        number("kitchen 1 1 1 3 %s 1 2" + rest, 0, 9);
        number("kitchen 1 1 1 3 2 %s 2" + rest, 1, 3);
        number("kitchen 1 1 1 3 2 1 %s" + rest, 0, 9);
    }

    private static void awayNumbers() {
        DUE.of("{ 'away' FROM TILL ';' } (MINUTES 0 to 59, TILL no less; 4 at most)");
        number(KITCHEN + "away %s 59;" + DISH + HAND, 0, 59);
        number(KITCHEN + "away 0 %s;" + DISH + HAND, 0, 59);
        DUE.fails(KITCHEN + "away 60 60;" + DISH + HAND, 27, 2);
    }

    private static void tillNoLess() {
        DUE.of("TILL no less");
        int[][] fine = {{0, 0}, {0, 1}, {30, 30}, {30, 31}, {58, 59}, {59, 59}};
        for (int[] a : fine) DUE.reads(KITCHEN + "away " + a[0] + " " + a[1] + ";" + DISH + HAND, 1);
        int[][] less = {{1, 0}, {9, 8}, {30, 29}, {59, 58}, {59, 0}};
        for (int[] a : less) DUE.fails(KITCHEN + "away " + a[0] + " " + a[1] + ";", 28 + ("" + a[0]).length(), 2);
    }

    private static void manyAways() {
        DUE.of("4 at most) dish { dish }");
        for (int n = 0; n <= 4; n++) {
            String text = KITCHEN + AWAY.repeat(n) + DISH + HAND;
            DUE.reads(text, 1);
            DUE.is(n + " aways", DUE.with(text).count(5), n);
        }
        DUE.fails(KITCHEN + AWAY.repeat(5) + DISH + HAND, 58, 3);
        DUE.fails(KITCHEN + AWAY.repeat(4) + "away", 58, 3);
        DUE.fails(KITCHEN + AWAY.repeat(3) + "away", 53, 1);
    }

    private static String dishes(int n) {
        return KITCHEN + (DISH + HAND).repeat(n);
    }

    private static void manyDishes() {
        DUE.of("DISHES 0 .. 7, 8 at most");
        DUE.fails(dishes(0), 22, 1);
        DUE.fails(KITCHEN + AWAY, 31, 1);
        for (int n = 1; n <= 8; n++) DUE.reads(dishes(n), n);
        DUE.fails(dishes(9), 22 + 8 * 20, 3);
        DUE.fails(dishes(8) + "dish", 22 + 8 * 20, 3);
        DUE.fails(dishes(7) + "dish", 22 + 7 * 20 + 4, 1);
        HotAtSeven x = DUE.with(dishes(8));
        DUE.is("dish 7", x.dish(7, 3), 1);
        DUE.is("dish 8", x.dish(8, 3), BAD);
    }

    private static void dishNumbers() {
        DUE.of("(KEEP 0 to 2, COLD 0 to 9, PAN 0 or 1;");
        number(KITCHEN + "dish %s 0 0;" + HAND, 0, 2);
        number(KITCHEN + "dish 0 %s 0;" + HAND, 0, 9);
        number(KITCHEN + "dish 0 0 %s;" + HAND, 0, 1);
    }

    private static void stepNumbers() {
        DUE.of("(LONG 1 to 30; WAIT 0, 1; STIR 0 to 2; SIZE 0, 1; LOW, HIGH 0 to 9, HIGH no less; LOSS 0 to 9)");
        String head = KITCHEN + DISH;
        String[] behind = {" 0 0", " 0 0 9", "", "", " 0"};
        for (int w = 0; w < WORDS.length; w++) {
            number(head + WORDS[w] + " %s 0" + behind[w] + ";", 1, 30);
            number(head + WORDS[w] + " 1 %s" + behind[w] + ";", 0, 1);
        }
        number(head + "ring 1 0 %s 0;", 0, 2);
        number(head + "ring 1 0 0 %s;", 0, 1);
        number(head + "oven 1 0 %s 0 9;", 0, 2);
        number(head + "oven 1 0 0 %s 9;", 0, 9);
        number(head + "oven 1 0 0 0 %s;", 0, 9);
        number(head + "keep 1 0 %s;", 0, 9);
    }

    private static void highNoLess() {
        DUE.of("LOW, HIGH 0 to 9, HIGH no less");
        for (int low = 0; low <= 9; low++) {
            String head = KITCHEN + DISH + "oven 1 0 0 " + low + " ";
            DUE.reads(head + low + ";", 1);
            DUE.reads(head + "9;", 1);
            DUE.fails(head + "10;", 46, 2);
            if (low > 0) DUE.fails(head + (low - 1) + ";", 46, 2);
        }
    }

    private static void manySteps() {
        DUE.of("A DISH has 1 to 3 STEPS");
        for (int n = 1; n <= 3; n++) {
            DUE.reads(KITCHEN + DISH + HAND.repeat(n), 1);
            DUE.is(n + " steps", DUE.with(KITCHEN + DISH + HAND.repeat(n)).dish(0, 3), n);
            DUE.reads(KITCHEN + DISH + HAND.repeat(n) + DISH + HAND, 2);
        }
        DUE.fails(KITCHEN + DISH, 33, 1);
        DUE.fails(KITCHEN + DISH + DISH + HAND, 33, 1);
        DUE.fails(KITCHEN + DISH + HAND + DISH, 53, 1);
        DUE.fails(KITCHEN + DISH + HAND.repeat(4), 60, 3);
        for (String word : WORDS) {
            DUE.fails(KITCHEN + DISH + HAND.repeat(3) + word, 60, 3);
            DUE.fails(KITCHEN + DISH + HAND.repeat(3) + word + "s", 60, 1);
            DUE.fails(KITCHEN + DISH + HAND + DISH + HAND.repeat(3) + word, 80, 3);
        }
    }

    private static void stepsOfAll() {
        DUE.of("STEPS of all DISHES are numbered as they come, 24 at most");
        StringBuilder text = new StringBuilder(KITCHEN);
        for (int d = 0; d < 8; d++) for (int s = 0; s < 3; s++) text.append(s == 0 ? DISH : "").append("rest ").append(3 * d + s + 1).append(" 0;");
        HotAtSeven x = DUE.with(text.toString());
        DUE.is("steps of all", x.count(2), 24);
        for (int s = 0; s < 24; s++) DUE.is("step " + s, x.step(s, 0), s + 1);
        DUE.is("step 24", x.step(24, 0), BAD);
        DUE.fails(text + "rest", text.length(), 3);
    }

    /** Where the sign is due no number stands, and where a number is due no sign. */
    private static void statement(String head, String statement, String tail) {
        String bare = statement.substring(0, statement.length() - 1);
        DUE.reads(head + statement + tail, 1);
        DUE.fails(head + bare + " 0;" + tail, head.length() + bare.length() + 1, 1);
        String fewer = bare.substring(0, bare.lastIndexOf(' '));
        DUE.fails(head + fewer + ";" + tail, head.length() + fewer.length(), 1);
    }

    private static void numbersTooFewOrMany() {
        DUE.of("text: 'kitchen' SMALL BIG SHELVES WARMS COOLS HANDS PANS ';'");
        statement("", KITCHEN, DISH + HAND);
        DUE.of("{ 'away' FROM TILL ';' }");
        statement(KITCHEN, AWAY, DISH + HAND);
        DUE.of("dish: 'dish' KEEP COLD PAN ';' step { step }");
        statement(KITCHEN, DISH, HAND);
        DUE.of("step: 'ring' LONG WAIT STIR SIZE ';' | 'oven' LONG WAIT STIR LOW HIGH ';' | 'hand' LONG WAIT ';' | 'rest' LONG WAIT ';'"
            + " | 'keep' LONG WAIT LOSS ';'");
        statement(KITCHEN + DISH, "ring 1 0 0 0;", "");
        statement(KITCHEN + DISH, "oven 1 0 0 0 0;", "");
        statement(KITCHEN + DISH, "hand 1 0;", "");
        statement(KITCHEN + DISH, "rest 1 0;", "");
        statement(KITCHEN + DISH, "keep 1 0 0;", "");
    }

    // ---- the book before

    private static void inPlaceOfTheOneBefore() {
        DUE.of("A BOOK that is read stands in place of the one before (none at first)");
        HotAtSeven x = DUE.with("kitchen 3 3 3 9 9 3 9;" + AWAY.repeat(4) + ("dish 2 9 1;" + "ring 30 1 2 1;".repeat(3)).repeat(8));
        DUE.is("the least book", Due.read(x, "kitchen 0 0 0 0 0 1 0;" + DISH + "rest 1 0;"), 1);
        int[] counts = {0, 1, 1, 1, 1, 0, 0, 60};
        for (int w = 0; w < 8; w++) DUE.is("count " + w, x.count(w), counts[w]);
        DUE.is("dish 1", x.dish(1, 0), BAD);
        DUE.is("step 1", x.step(1, 0), BAD);
        int[] dish = {0, 0, 0, 1, 0, 1};
        for (int w = 0; w < 6; w++) DUE.is("dish 0 " + w, x.dish(0, w), dish[w]);
        int[] step = {1, 0, 0, HotAtSeven.NONE, HotAtSeven.NONE};
        for (int w = 0; w < 5; w++) DUE.is("step 0 " + w, x.step(0, w), step[w]);
        int[] gives = {0, 0, 0, 1, 0};
        for (int w = 0; w < 5; w++) DUE.is("gives " + w, x.gives(1, w), gives[w]);
    }

    /** Nothing of a book of long ago comes back. */
    private static void inPlaceOfMany() {
        DUE.of("A BOOK that is read stands in place of the one before");
        HotAtSeven x = new HotAtSeven();
        String great = "kitchen 3 3 3 9 9 3 9;" + AWAY.repeat(4) + ("dish 2 9 1;" + "ring 30 1 2 1;".repeat(3)).repeat(8);
        String small = "kitchen 0 1 0 0 0 1 0;" + DISH + "rest 1 0;";
        int[] counts = {0, 1, 1, 1, 1, 0, 0, 60};
        for (int round = 0; round < 3; round++) {
            for (int i = 0; i <= round; i++) {
                DUE.is("great", Due.read(x, great), 8);
                x.dinner(0b11110000);
                x.out(0);
            }
            for (int i = 0; i < 3; i++) {
                DUE.is("small", Due.read(x, small), 1);
                for (int w = 0; w < 8; w++) DUE.is("count " + w, x.count(w), counts[w]);
                DUE.is("hands", x.gives(1, 3), 1);
                DUE.is("big ones", x.gives(59, 1), 1);
                DUE.is("earliest", x.earliest(), 1);
            }
        }
    }

    private static void dinnerIsDishNought() {
        DUE.of("the DINNER is DISH 0, no RING is out");
        String text = "kitchen 0 1 0 0 0 1 0;" + DISH + "rest 3 0;" + DISH + "rest 4 0;rest 5 0;";
        HotAtSeven x = DUE.with(text);
        DUE.is("its one dish", x.count(3), 1);
        DUE.is("begins", x.begins(20, 0), 17);
        DUE.is("more", x.more(20), 2);
        DUE.is("none is out", x.count(7), 60);
        x.dinner(2);
        x.out(0);
        DUE.is("another dinner", x.begins(20, 0), 11);
        DUE.is("one is out", x.count(7), 0);
        Due.read(x, text);
        DUE.is("its one dish", x.count(3), 1);
        DUE.is("begins", x.begins(20, 0), 17);
        DUE.is("none is out", x.count(7), 60);
        DUE.is("gives", x.gives(0, 1), 1);
    }

    // ---- faults

    private static void firstToken() {
        DUE.of("FAULTS, the first TOKEN that has one");
        DUE.fails("kitchen 4 4 x", 8, 2);
        DUE.fails("kitchen 3 4 x", 10, 2);
        DUE.fails("kitchen 3 x 4", 10, 1);
        DUE.fails(KITCHEN + "away 60 0;", 27, 2);
        DUE.fails(KITCHEN + "away 5 4 x", 29, 2);
        DUE.fails(KITCHEN + AWAY.repeat(4) + "away x", 58, 3);
        DUE.fails(KITCHEN + AWAY.repeat(3) + "away x" + AWAY, 54, 1);
        DUE.fails(KITCHEN + DISH + HAND.repeat(3) + "ring 99;", 60, 3);
        DUE.fails(KITCHEN + DISH + HAND.repeat(2) + "hand 99 0;" + HAND, 56, 2);
        DUE.fails(dishes(8) + "dish 9;", 182, 3);
    }

    private static void itsFirstByte() {
        DUE.of("the first TOKEN that has one (its first byte)");
        DUE.fails("  boil", 2, 1);
        DUE.fails("kitchen \n 10", 10, 2);
        DUE.fails("kitchen 10", 8, 2);
        DUE.fails("kitchen 1 1 1 10", 14, 2);
        DUE.fails(KITCHEN + "   boil", 25, 1);
        DUE.fails(KITCHEN + AWAY.repeat(4) + " \naway", 60, 3);
        DUE.fails(KITCHEN + "   ;", 25, 1);
    }

    private static void leastOfOneToken() {
        DUE.of("of one TOKEN the least: 1 it cannot stand there, or is none");
        // No token, though a number that is not as told were it one.
        DUE.fails("kitchen 100", 8, 1);
        DUE.fails(KITCHEN + "away 5 004;", 29, 1);
        // A fifth 'away', a ninth 'dish', where they cannot stand.
        DUE.fails(KITCHEN + AWAY.repeat(4) + DISH + HAND + "away", 78, 1);
        DUE.fails(KITCHEN + AWAY.repeat(4) + "away".repeat(2), 58, 1);
        DUE.fails(KITCHEN + AWAY.repeat(3) + "away away", 54, 1);
        DUE.fails(dishes(7) + DISH + "dish", 173, 1);
        DUE.fails(dishes(8) + HAND.repeat(2) + "hand", 200, 3);
        DUE.fails(dishes(8) + "away", 182, 1);
        // A fourth step that is within the third.
        DUE.fails(KITCHEN + DISH + HAND.repeat(2) + "hand 1 hand", 58, 1);
        DUE.fails(KITCHEN + HAND.repeat(4), 22, 1);
    }

    private static void numbersNotAsTold() {
        DUE.of("2 a NUMBER that is not as told");
        DUE.fails("kitchen 4", 8, 2);
        DUE.fails("kitchen 3", 9, 1);
        DUE.fails("kitchen 1 1 1 3 2 0", 18, 2);
        DUE.fails("kitchen 1 1 1 3 2 1", 19, 1);
        DUE.fails(KITCHEN + "away 9 8", 29, 2);
        DUE.fails(KITCHEN + "away 9 9", 30, 1);
        DUE.fails(KITCHEN + DISH + "rest 31", 38, 2);
        DUE.fails(KITCHEN + DISH + "rest 30", 40, 1);
        DUE.fails(KITCHEN + DISH + "rest 0", 38, 2);
        DUE.fails(KITCHEN + DISH + "rest 1", 39, 1);
        DUE.fails(KITCHEN + DISH + "oven 1 0 0 5 4", 46, 2);
        DUE.fails(KITCHEN + DISH + "oven 1 0 0 5 5", 47, 1);
    }

    private static void atTheEnd() {
        DUE.of("(the end: how many bytes there are)");
        DUE.fails("", 0, 1);
        DUE.fails(" ", 1, 1);
        DUE.fails(" \n ", 3, 1);
        DUE.fails("kitchen", 7, 1);
        DUE.fails("kitchen ", 8, 1);
        String good = KITCHEN + AWAY + DISH + HAND;
        int inLast = good.length() - 1;
        for (int n = 0; n <= inLast; n++) {
            String text = good.substring(0, n);
            boolean cutWord = n > 0 && n < 7 || n > 22 && n < 26 || n > 31 && n < 35 || n > 42 && n < 46;
            int word = n < 7 ? 0 : n < 26 ? 22 : n < 35 ? 31 : 42;
            DUE.fails(text, cutWord ? word : n, 1);
            DUE.fails(text + " ", cutWord ? word : n + 1, 1);
        }
        DUE.reads(good, 1);
        DUE.reads(good + "  ", 1);
    }

    private static void wordsThatAreCutOff() {
        DUE.of("1 it cannot stand there, or is none");
        String[][] cuts = {{"", "kitche", "kitchens"}, {KITCHEN, "awa", "aways"}, {KITCHEN, "dis", "dishes"}, {KITCHEN + DISH, "rin", "rings"},
            {KITCHEN + DISH, "ove", "ovens"}, {KITCHEN + DISH, "han", "hands"}, {KITCHEN + DISH, "res", "rests"}, {KITCHEN + DISH, "kee", "keeps"}};
        for (String[] c : cuts) {
            DUE.fails(c[0] + c[1] + " 1", c[0].length(), 1);
            DUE.fails(c[0] + c[2] + " 1", c[0].length(), 1);
        }
        DUE.fails(KITCHEN + DISH + HAND + "dis", 42, 1);
        DUE.fails(KITCHEN + DISH + HAND + "rin", 42, 1);
        DUE.fails(KITCHEN + DISH + HAND + "7", 42, 1);
        DUE.fails(KITCHEN + DISH + HAND + KITCHEN, 42, 1);
    }

    private static void wordsLetterByLetter() {
        DUE.of("1 it cannot stand there, or is none");
        String[] texts = {KITCHEN + AWAY + DISH + HAND, KITCHEN + DISH + "ring 1 0 0 0;", KITCHEN + DISH + "oven 1 0 0 0 0;", KITCHEN + DISH + "rest 1 0;",
            KITCHEN + DISH + "keep 1 0 0;"};
        for (String text : texts) {
            DUE.reads(text, 1);
            int word = -1;
            for (int i = 0; i < text.length(); i++) {
                boolean letter = text.charAt(i) >= 'a' && text.charAt(i) <= 'z';
                if (letter && word < 0) word = i;
                if (!letter) word = -1;
                if (letter) DUE.fails(text.substring(0, i) + 'x' + text.substring(i + 1), word, 1);
            }
        }
    }

    /** What stood on the tape before is no part of it any more, behind its end. */
    private static void endOfTheTapeAndBytesOfOld() {
        DUE.of("(the end: how many bytes there are)");
        String good = KITCHEN + AWAY + DISH + HAND;
        for (int n = 0; n < good.length(); n++) {
            HotAtSeven x = new HotAtSeven();
            HotAtSeven y = new HotAtSeven();
            DUE.is("all", Due.read(x, good), 1);
            DUE.is("the first " + n, Due.read(x, good.substring(0, n)), Due.read(y, good.substring(0, n)));
            DUE.is("its fault", x.fault(), y.fault());
        }
        HotAtSeven x = new HotAtSeven();
        Due.read(x, "kitchen 39");
        DUE.is("3, and not 39", Due.read(x, "kitchen 3"), -1000109);
        DUE.is("its fault", x.fault(), 1);
        Due.read(x, "kitchens");
        DUE.is("kitchen, and not kitchens", Due.read(x, "kitchen"), -1000107);
        Due.read(x, "        ");
        DUE.is("one byte of eight", Due.read(x, " "), -1000101);
    }

    private static void roomByItsWord() {
        DUE.of("3 more of a sort than there is room for (its word; the 4th STEP of a DISH, too)");
        DUE.fails(KITCHEN + AWAY.repeat(5), 58, 3);
        DUE.fails(dishes(9), 182, 3);
        DUE.fails(KITCHEN + DISH + HAND.repeat(4), 60, 3);
        DUE.fails(KITCHEN + (DISH + HAND.repeat(3)).repeat(8) + HAND, 22 + 8 * 38, 3);
        DUE.fails(KITCHEN + (DISH + HAND.repeat(3)).repeat(8) + DISH, 22 + 8 * 38, 3);
    }

    private static void bookStays() {
        DUE.of("-1000100 less the place of a FAULT: the BOOK stays");
        HotAtSeven x = DUE.with("kitchen 2 1 0 0 0 3 7;" + AWAY + "dish 1 2 0;rest 4 0;dish 0 0 1;rest 2 0;");
        x.dinner(3);
        x.out(44);
        String other = "kitchen 0 2 3 4 5 1 2;" + AWAY.repeat(2) + "dish 2 5 1;" + HAND.repeat(3) + "dish 0 9 1;" + HAND;
        for (int n = 0; n < other.length(); n++) {
            String text = other.substring(0, n) + "!";
            DUE.is("fault in '" + text, Due.read(x, text) <= -1000100 ? 1 : 0, 1);
            int[] counts = {0, 2, 2, 2, 2, 1, 0, 44};
            for (int w = 0; w < 8; w++) DUE.is("count " + w, x.count(w), counts[w]);
            DUE.is("keep", x.dish(0, 0), 1);
            DUE.is("long", x.step(0, 0), 4);
            DUE.is("rings", x.gives(43, 0), 3);
            DUE.is("rings, one out", x.gives(44, 0), 2);
            DUE.is("hands", x.gives(1, 3), 2);
        }
        DUE.is("begins", x.begins(20, 1), 18);
    }

    private static void latestFault() {
        DUE.of("The number of the latest FAULT; 0 before one.");
        HotAtSeven x = new HotAtSeven();
        DUE.is("before one", x.fault(), 0);
        DUE.is("a book", Due.read(x, KITCHEN + DISH + HAND), 1);
        DUE.is("before one, still", x.fault(), 0);
        Due.read(x, "kitchen 9");
        DUE.is("2", x.fault(), 2);
        Due.read(x, KITCHEN + AWAY.repeat(5));
        DUE.is("3", x.fault(), 3);
        Due.read(x, "boil");
        DUE.is("1", x.fault(), 1);
        Due.read(x, "kitchen 9");
        DUE.is("2", x.fault(), 2);
        DUE.is("a book", Due.read(x, KITCHEN + DISH + HAND), 1);
        DUE.is("the latest, still", x.fault(), 2);
        x.feed(0, 9);
        x.dinner(0);
        DUE.is("a refusal is no FAULT", x.fault(), 2);
    }
}
