/** Promises 1 to 5 and 34 at their boundaries, sentence by sentence: SHEETS, their ITEMS and FINDINGS. */
public final class EdgesSheetsTest {
    private static final Due DUE = new Due("EdgesSheetsTest");
    private static final int BAD = HotAtSeven.BAD;
    private static final int NULL = -1000011, PLACE = -1000012, KIND = -1000013, SIZE = -1000014, STORE = -1000015;
    private static final int LEAST = Integer.MIN_VALUE, MOST = Integer.MAX_VALUE;
    private static final int[] NO_SHEETS = {-1, 8, LEAST, MOST};

    public static void main(String[] args) {
        noBook();
        missingAtFirst();
        numbersOfSheets();
        lanes();
        manyItems();
        zeroAtFirst();
        inPlace();
        bytes();
        shorts();
        ints();
        places();
        asTheyWere();
        copiedWhole();
        copiesNothing();
        copyPlaces();
        copyPlacesFarOff();
        stores();
        nulls();
        dropped();
        statusNumbers();
        statusAtFirst();
        statusStays();
        statusOfJudge();
        statusOfAs();
        DUE.end();
    }

    private static void noBook() {
        DUE.of("`HotAtSeven()`: No BOOK.");
        HotAtSeven x = new HotAtSeven();
        DUE.is("dishes", x.count(1), 0);
        DUE.is("steps", x.count(2), 0);
        DUE.is("dishes of the dinner", x.count(3), 0);
        DUE.is("steps of the dinner", x.count(4), 0);
        DUE.is("earliest", x.earliest(), HotAtSeven.STATE);
        DUE.is("image", x.image(0), HotAtSeven.STATE);
        DUE.is("dish 0", x.dish(0, 0), BAD);
        DUE.is("step 0", x.step(0, 0), BAD);
        DUE.is("kind 0", x.kind(0), BAD);
    }

    private static void missingAtFirst() {
        DUE.of("1 SHEETS 0 .. 7 are missing (at first)");
        HotAtSeven x = new HotAtSeven();
        DUE.is("how many", x.count(0), 0);
        for (int s = 0; s < 8; s++) {
            DUE.is("drop " + s, x.drop(s), NULL);
            DUE.is("set " + s, x.set(s, 0, 0), NULL);
            DUE.is("copy " + s, x.copy(s, 0, s, 0, 0), NULL);
        }
        for (int s = 0; s < 8; s++) {
            DUE.is("sheet " + s, x.sheet(s, 0, 1), 1);
            DUE.is("how many", x.count(0), s + 1);
        }
    }

    private static void numbersOfSheets() {
        DUE.of("SHEETS 0 .. 7");
        HotAtSeven x = DUE.with(Due.RESTING);
        for (int s = 0; s < 8; s += 7) {
            DUE.is("sheet " + s, x.sheet(s, 2, 2), 2);
            DUE.is("set " + s, x.set(s, 1, 4), 4);
            DUE.is("copy " + s, x.copy(s, 1, s, 0, 1), 1);
            DUE.is("judge " + s, x.judge(s, 0, 5), 0);
        }
        for (int s : NO_SHEETS) {
            DUE.is("sheet " + s, x.sheet(s, 2, 2), BAD);
            DUE.is("set " + s, x.set(s, 1, 4), BAD);
            DUE.is("copy from " + s, x.copy(s, 0, 0, 0, 1), BAD);
            DUE.is("copy to " + s, x.copy(0, 0, s, 0, 1), BAD);
            DUE.is("judge " + s, x.judge(s, 0, 5), BAD);
            DUE.is("drop " + s, x.drop(s), BAD);
        }
        DUE.is("drop 0", x.drop(0), 2);
        DUE.is("drop 7", x.drop(7), 2);
    }

    private static void lanes() {
        DUE.of("have a LANE (0 bytes, 1 shorts, 2 ints)");
        HotAtSeven x = new HotAtSeven();
        int[] kept = {0, 0, 65536};
        int[] half = {0, 256, 256};
        for (int lane = 0; lane < 3; lane++) {
            DUE.is("lane " + lane, x.sheet(lane, lane, 1), 1);
            DUE.is("bit 16 in lane " + lane, x.set(lane, 0, 65536), kept[lane]);
            DUE.is("bit 8 in lane " + lane, x.set(lane, 0, 256), half[lane]);
        }
        for (int lane : new int[] {-1, 3, LEAST, MOST}) DUE.is("lane " + lane, x.sheet(0, lane, 1), BAD);
    }

    private static void manyItems() {
        DUE.of("BAD: SHEET, LANE, n above 40; SIZE.");
        HotAtSeven x = new HotAtSeven();
        DUE.is("40", x.sheet(0, 0, 40), 40);
        DUE.is("the last of 40", x.set(0, 39, 3), 3);
        DUE.is("one behind", x.set(0, 40, 3), PLACE);
        DUE.is("41", x.sheet(0, 0, 41), BAD);
        DUE.is("most", x.sheet(0, 0, MOST), BAD);
        DUE.is("0", x.sheet(1, 0, 0), 0);
        DUE.is("the first of none", x.set(1, 0, 3), PLACE);
        DUE.is("-1", x.sheet(1, 0, -1), SIZE);
        DUE.is("least", x.sheet(1, 0, LEAST), SIZE);
        DUE.is("a sheet that there is not, of fewer than none", x.sheet(8, 0, -1), BAD);
        DUE.is("a lane that there is not, of fewer than none", x.sheet(1, 3, -1), BAD);
        DUE.is("how many", x.count(0), 2);
    }

    private static void zeroAtFirst() {
        DUE.of("and 0 to 40 ITEMS, 0 at first");
        HotAtSeven x = DUE.with(Due.RESTING);
        x.sheet(6, 0, 40);
        for (int i = 0; i < 40; i++) DUE.is("item " + i, Due.item(x, 6, i), 0);
        x.set(6, 0, 9);
        x.set(6, 39, 9);
        x.sheet(6, 0, 1);
        DUE.is("anew, less", Due.item(x, 6, 0), 0);
        x.sheet(6, 0, 40);
        DUE.is("anew, more", Due.item(x, 6, 39), 0);
        x.set(6, 39, 9);
        x.drop(6);
        x.sheet(6, 0, 40);
        DUE.is("dropped, anew", Due.item(x, 6, 39), 0);
        x.set(6, 39, 9);
        DUE.is("as many again", x.sheet(6, 0, 40), 40);
        DUE.is("as many again", Due.item(x, 6, 39), 0);
    }

    private static void inPlace() {
        DUE.of("A SHEET of a LANE with n ITEMS, in place of what is there: n.");
        HotAtSeven x = new HotAtSeven();
        x.sheet(3, 0, 5);
        DUE.is("one more item", x.sheet(3, 1, 6), 6);
        DUE.is("its last", x.set(3, 5, 300), 300);
        DUE.is("one behind", x.set(3, 6, 300), PLACE);
        DUE.is("fewer items", x.sheet(3, 2, 2), 2);
        DUE.is("its last", x.set(3, 1, MOST), MOST);
        DUE.is("one behind", x.set(3, 2, MOST), PLACE);
        DUE.is("how many", x.count(0), 1);
        DUE.is("how many items", x.drop(3), 2);
    }

    private static void sets(int lane, int[]... pairs) {
        DUE.of("ITEM i becomes v, its lowest bits, as many as the LANE has: what it is then.");
        HotAtSeven x = new HotAtSeven();
        x.sheet(0, lane, 1);
        for (int[] p : pairs) DUE.is("lane " + lane + ", " + p[0], x.set(0, 0, p[0]), p[1]);
    }

    private static void bytes() {
        sets(0, new int[][] {{127, 127}, {128, -128}, {129, -127}, {255, -1}, {256, 0}, {257, 1}, {-1, -1}, {-128, -128},
            {-129, 127}, {-256, 0}, {-257, -1}, {LEAST, 0}, {MOST, -1}});
    }

    private static void shorts() {
        sets(1, new int[][] {{32767, 32767}, {32768, -32768}, {65535, -1}, {65536, 0}, {65537, 1}, {-1, -1}, {-32768, -32768},
            {-32769, 32767}, {-65536, 0}, {LEAST, 0}, {MOST, -1}});
    }

    private static void ints() {
        sets(2, new int[][] {{MOST, MOST}, {LEAST, LEAST}, {-1, -1}, {65536, 65536}, {0, 0}});
    }

    private static void places() {
        DUE.of("BAD: SHEET; NULL; PLACE.");
        HotAtSeven x = DUE.with(Due.RESTING);
        x.sheet(0, 0, 3);
        DUE.is("first", x.set(0, 0, 11), 11);
        DUE.is("last", x.set(0, 2, 13), 13);
        DUE.is("ahead of the first", x.set(0, -1, 5), PLACE);
        DUE.is("behind the last", x.set(0, 3, 5), PLACE);
        DUE.is("far ahead", x.set(0, LEAST, 5), PLACE);
        DUE.is("far behind", x.set(0, MOST, 5), PLACE);
        DUE.is("a missing one, no such place", x.set(1, -1, 5), NULL);
        DUE.is("no such sheet, no such place", x.set(8, -1, 5), BAD);
        int[] stays = {11, 0, 13};
        for (int i = 0; i < 3; i++) DUE.is("item " + i, Due.item(x, 0, i), stays[i]);
    }

    private static HotAtSeven counting(int n) {
        HotAtSeven x = DUE.with(Due.RESTING);
        x.sheet(0, 0, n);
        for (int i = 0; i < n; i++) x.set(0, i, 10 + i);
        return x;
    }

    private static void asTheyWere() {
        DUE.of("n ITEMS of a from i on come to b from j on, as they were ahead: n.");
        int[][] due = {{12, 13, 14, 13, 14}, {11, 12, 13, 14, 14}, {10, 11, 12, 13, 14}, {10, 10, 11, 12, 13}, {10, 11, 10, 11, 12}};
        for (int shift = -2; shift <= 2; shift++) {
            HotAtSeven x = counting(5);
            int n = 5 - Math.abs(shift);
            DUE.is("by " + shift, x.copy(0, Math.max(0, -shift), 0, Math.max(0, shift), n), n);
            for (int i = 0; i < 5; i++) DUE.is("by " + shift + ", item " + i, Due.item(x, 0, i), due[shift + 2][i]);
        }
    }

    private static void copiedWhole() {
        DUE.of("n ITEMS of a from i on come to b from j on");
        HotAtSeven x = counting(40);
        x.sheet(7, 0, 40);
        DUE.is("all", x.copy(0, 0, 7, 0, 40), 40);
        for (int i = 0; i < 40; i++) DUE.is("item " + i, Due.item(x, 7, i), 10 + i);
        x.sheet(7, 0, 4);
        DUE.is("the last into the midst", x.copy(0, 38, 7, 1, 2), 2);
        int[] due = {0, 48, 49, 0};
        for (int i = 0; i < 4; i++) DUE.is("item " + i, Due.item(x, 7, i), due[i]);
        DUE.is("the source stays", Due.item(x, 0, 39), 49);
    }

    private static void copiesNothing() {
        DUE.of("PLACE (i, j, n below 0, or beyond an end)");
        HotAtSeven x = counting(3);
        x.sheet(1, 0, 2);
        x.sheet(2, 0, 0);
        DUE.is("none, at both ends", x.copy(0, 3, 1, 2, 0), 0);
        DUE.is("none, behind the end of the first", x.copy(0, 4, 1, 2, 0), PLACE);
        DUE.is("none, behind the end of the second", x.copy(0, 3, 1, 3, 0), PLACE);
        DUE.is("none of none", x.copy(2, 0, 2, 0, 0), 0);
        DUE.is("one of none", x.copy(2, 0, 0, 0, 1), PLACE);
        DUE.is("one into none", x.copy(0, 0, 2, 0, 1), PLACE);
        for (int i = 0; i < 3; i++) DUE.is("item " + i, Due.item(x, 0, i), 10 + i);
    }

    private static void copyPlaces() {
        DUE.of("PLACE (i, j, n below 0, or beyond an end)");
        HotAtSeven x = counting(5);
        x.sheet(1, 0, 4);
        int[][] fine = {{0, 0, 4}, {1, 0, 4}, {2, 1, 3}, {4, 3, 1}, {0, 3, 1}, {4, 0, 1}};
        for (int[] p : fine) DUE.is("copy " + p[0] + " " + p[1] + " " + p[2], x.copy(0, p[0], 1, p[1], p[2]), p[2]);
        int[][] lost = {{0, 0, 5}, {2, 0, 4}, {0, 1, 4}, {2, 2, 3}, {3, 1, 3}, {5, 3, 1}, {4, 4, 1}, {5, 0, 1}, {0, 4, 1},
            {-1, 0, 4}, {0, -1, 4}, {0, 0, -1}, {-1, 0, 0}, {0, -1, 0}, {1, 1, -1}};
        for (int[] p : lost) DUE.is("copy " + p[0] + " " + p[1] + " " + p[2], x.copy(0, p[0], 1, p[1], p[2]), PLACE);
        int[][] back = {{0, 0, 5}, {0, 1, 5}, {1, 0, 4}};
        for (int[] p : back) DUE.is("back " + p[0] + " " + p[1] + " " + p[2], x.copy(1, p[0], 0, p[1], p[2]), PLACE);
        DUE.is("back, as many as there are", x.copy(1, 0, 0, 1, 4), 4);
    }

    private static void copyPlacesFarOff() {
        DUE.of("PLACE (i, j, n below 0, or beyond an end)");
        HotAtSeven x = counting(5);
        for (int far : new int[] {LEAST, LEAST + 1, MOST - 1, MOST}) {
            DUE.is("i " + far, x.copy(0, far, 0, 0, 1), PLACE);
            DUE.is("j " + far, x.copy(0, 0, 0, far, 1), PLACE);
            DUE.is("n " + far, x.copy(0, 0, 0, 0, far), PLACE);
            DUE.is("n from 1 on " + far, x.copy(0, 1, 0, 1, far), PLACE);
            DUE.is("all " + far, x.copy(0, far, 0, far, far), PLACE);
        }
        for (int i = 0; i < 5; i++) DUE.is("item " + i, Due.item(x, 0, i), 10 + i);
    }

    private static void stores() {
        DUE.of("5 STORE (SHEETS of two LANES)");
        HotAtSeven x = new HotAtSeven();
        for (int lane = 0; lane < 3; lane++) {
            x.sheet(lane, lane, 1);
            x.sheet(lane + 3, lane, 1);
        }
        for (int a = 0; a < 3; a++) {
            for (int b = 0; b < 3; b++) {
                DUE.is("lanes " + a + " " + b, x.copy(a, 0, b + 3, 0, 1), a == b ? 1 : STORE);
                DUE.is("lanes " + a + " " + b + ", no item", x.copy(a, 0, b + 3, 0, 0), a == b ? 0 : STORE);
                DUE.is("lanes " + a + " " + b + ", no such place", x.copy(a, 2, b + 3, -1, -5), a == b ? PLACE : STORE);
            }
        }
    }

    private static void nulls() {
        DUE.of("BAD: SHEETS; NULL; STORE; PLACE");
        HotAtSeven x = new HotAtSeven();
        x.sheet(0, 0, 1);
        x.sheet(1, 1, 1);
        DUE.is("the first is missing", x.copy(2, 0, 0, 0, 1), NULL);
        DUE.is("the second is missing", x.copy(0, 0, 2, 0, 1), NULL);
        DUE.is("both are missing", x.copy(2, 0, 3, 0, 1), NULL);
        DUE.is("one that is missing, in itself", x.copy(2, 0, 2, 0, 0), NULL);
        DUE.is("missing, and no such place", x.copy(2, -1, 1, -1, -1), NULL);
        DUE.is("missing, and no such sheet", x.copy(2, 0, 8, 0, 1), BAD);
        DUE.is("no such sheet, and missing", x.copy(-1, 0, 2, 0, 1), BAD);
        DUE.is("two lanes, and no such sheet", x.copy(0, 0, 8, -1, -1), BAD);
        x.drop(1);
        DUE.is("of two lanes, now missing", x.copy(0, 0, 1, 0, 1), NULL);
    }

    private static void dropped() {
        DUE.of("A SHEET is missing from now on: how many ITEMS it had. BAD; NULL.");
        HotAtSeven x = DUE.with(Due.RESTING);
        for (int n : new int[] {0, 1, 39, 40}) {
            x.sheet(4, 1, n);
            DUE.is("with " + n, x.drop(4), n);
            DUE.is("again", x.drop(4), NULL);
            DUE.is("how many", x.count(0), 0);
        }
        DUE.is("set", x.set(4, 0, 1), NULL);
        DUE.is("judge", x.judge(4, 0, 1), NULL);
    }

    private static void statusNumbers() {
        DUE.of("-1000010 less 1 NULL (a SHEET that is missing), 2 PLACE (no such place of a SHEET), 3 KIND (a STEP that is not that),"
            + " 4 SIZE (fewer than none), 5 STORE (SHEETS of two LANES)");
        HotAtSeven x = DUE.with(Due.RESTING);
        x.sheet(0, 0, 1);
        x.sheet(1, 1, 1);
        int[] answers = {x.drop(2), 0, x.set(0, 1, 0), 0, x.as(0, 5), 0, x.sheet(2, 0, -1), 0, x.copy(0, 0, 1, 0, 1), 0};
        int[] due = {NULL, PLACE, KIND, SIZE, STORE};
        for (int i = 0; i < 5; i++) DUE.is("finding " + (i + 1), answers[2 * i], due[i]);
        DUE.is("the number of the latest", x.status(), 5);
        x.sheet(2, 0, -1);
        DUE.is("SIZE", x.status(), 4);
        x.as(0, 5);
        DUE.is("KIND", x.status(), 3);
        x.set(0, 1, 0);
        DUE.is("PLACE", x.status(), 2);
        x.drop(2);
        DUE.is("NULL", x.status(), 1);
    }

    private static void statusAtFirst() {
        DUE.of("the number of its FINDING; 0: it had none, or there was none");
        HotAtSeven x = DUE.with(Due.RESTING);
        DUE.is("there was none", x.status(), 0);
        x.sheet(9, 0, 1);
        DUE.is("none but a BAD one", x.status(), 0);
        x.drop(3);
        x.sheet(3, 2, 4);
        DUE.is("sheet", x.status(), 0);
        x.drop(4);
        x.set(3, 0, 1);
        DUE.is("set", x.status(), 0);
        x.drop(4);
        x.copy(3, 0, 3, 1, 2);
        DUE.is("copy", x.status(), 0);
        x.drop(4);
        x.drop(3);
        DUE.is("drop", x.status(), 0);
    }

    private static void statusStays() {
        DUE.of("Of the latest call with a SHEET, or as(), that was not BAD, STATE, FULL");
        HotAtSeven x = new HotAtSeven();
        x.sheet(0, 0, 1);
        x.set(0, 1, 1);
        int[] bad = {x.sheet(8, 0, 1), x.sheet(0, 3, 1), x.sheet(0, 0, 41), x.set(8, 0, 1), x.copy(0, 0, 8, 0, 1), x.drop(-1),
            x.judge(0, 0, 0), x.as(0, 0), x.feed(0, 9), x.book(), x.dinner(1), x.out(61)};
        for (int i = 0; i < bad.length; i++) DUE.is("bad " + i, bad[i], i == 9 ? -1000100 : BAD);
        DUE.is("BAD leaves it", x.status(), 2);
        DUE.is("judge without a book", x.judge(0, 0, 1), HotAtSeven.STATE);
        DUE.is("STATE leaves it", x.status(), 2);
        for (int i = 0; i < 75; i++) x.feed(0x2020202020202020L, 8);
        DUE.is("full", x.feed(0x20, 1), HotAtSeven.FULL);
        DUE.is("FULL leaves it", x.status(), 2);
        x.book();
        Due.read(x, Due.RESTING);
        x.least(5, -1);
        x.ask(0, 0);
        x.kind(0);
        x.image(0);
        x.restore(0);
        x.count(0);
        x.status();
        DUE.is("calls without a sheet leave it", x.status(), 2);
    }

    private static void statusOfJudge() {
        DUE.of("Of the latest call with a SHEET");
        HotAtSeven x = DUE.with(Due.RESTING);
        x.sheet(0, 0, 2);
        x.drop(3);
        DUE.is("a plan", x.judge(0, 1, 1), 0);
        DUE.is("judged", x.status(), 0);
        x.drop(3);
        DUE.is("no plan", x.judge(0, 1, 9), 3);
        DUE.is("judged, too", x.status(), 0);
        DUE.is("no such place", x.judge(0, 2, 9), PLACE);
        DUE.is("its number", x.status(), 2);
        DUE.is("missing", x.judge(3, 2, 9), NULL);
        DUE.is("its number", x.status(), 1);
        DUE.is("by 61", x.judge(0, 0, 61), BAD);
        DUE.is("stays", x.status(), 1);
    }

    private static void statusOfAs() {
        DUE.of("or as(), that was not BAD, STATE, FULL");
        HotAtSeven x = DUE.with(Due.RESTING);
        DUE.is("it is none", x.as(0, 1), KIND);
        DUE.is("its number", x.status(), 3);
        DUE.is("no such kind", x.as(0, 7), BAD);
        DUE.is("no such step", x.as(1, 4), BAD);
        DUE.is("stays", x.status(), 3);
        DUE.is("it is one", x.as(0, 4), 0);
        DUE.is("none", x.status(), 0);
    }
}
