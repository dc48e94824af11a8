/** Promises 1 to 5 and 34: a new object, sheet, set, copy, drop, status. */
public final class SheetsTest {
    private static final Due DUE = new Due("SheetsTest");
    private static final int NULL = -1000011, PLACE = -1000012, SIZE = -1000014, STORE = -1000015;
    private static final int LEAST = Integer.MIN_VALUE, MOST = Integer.MAX_VALUE;

    public static void main(String[] args) {
        newObject();
        sheet();
        set();
        copyWithin();
        copyBetween();
        copyRefused();
        drop();
        status();
        DUE.end();
    }

    private static void newObject() {
        HotAtSeven x = new HotAtSeven();
        for (int w = 0; w < 7; w++) DUE.is("new count " + w, x.count(w), 0);
        DUE.is("new count 7", x.count(7), 60);
        DUE.is("new status", x.status(), 0);
        DUE.is("new fault", x.fault(), 0);
        DUE.is("new trace", x.trace(0), HotAtSeven.NONE);
        DUE.is("new earliest", x.earliest(), HotAtSeven.STATE);
        DUE.is("new dish", x.dish(0, 0), HotAtSeven.BAD);
        DUE.is("new restore", x.restore(0), HotAtSeven.STATE);
        for (int s = 0; s < 8; s++) DUE.is("new drop " + s, x.drop(s), NULL);
    }

    private static void sheet() {
        HotAtSeven x = DUE.with(Due.RESTING);
        DUE.is("sheet 0", x.sheet(0, 0, 0), 0);
        DUE.is("sheet 7", x.sheet(7, 2, 40), 40);
        DUE.is("count", x.count(0), 2);
        DUE.is("sheet -1", x.sheet(-1, 0, 1), HotAtSeven.BAD);
        DUE.is("sheet 8", x.sheet(8, 0, 1), HotAtSeven.BAD);
        DUE.is("lane -1", x.sheet(1, -1, 1), HotAtSeven.BAD);
        DUE.is("lane 3", x.sheet(1, 3, 1), HotAtSeven.BAD);
        DUE.is("41 items", x.sheet(1, 0, 41), HotAtSeven.BAD);
        DUE.is("most items", x.sheet(1, 0, MOST), HotAtSeven.BAD);
        DUE.is("lane ahead of size", x.sheet(1, 3, -1), HotAtSeven.BAD);
        DUE.is("size", x.sheet(1, 0, -1), SIZE);
        DUE.is("least size", x.sheet(1, 0, LEAST), SIZE);
        DUE.is("count", x.count(0), 2);
        DUE.is("size, in place", x.sheet(7, 0, -5), SIZE);
        DUE.is("still there", x.set(7, 39, 70000), 70000);
        DUE.is("first item", x.set(7, 0, 9), 9);
        DUE.is("item", Due.item(x, 7, 0), 9);
        DUE.is("in place", x.sheet(7, 2, 40), 40);
        DUE.is("0 at first", Due.item(x, 7, 0), 0);
        DUE.is("fewer", x.sheet(7, 0, 1), 1);
        DUE.is("no such place", x.set(7, 1, 0), PLACE);
        DUE.is("another lane", x.set(7, 0, 128), -128);
        DUE.is("count", x.count(0), 2);
    }

    private static void set() {
        HotAtSeven x = DUE.with(Due.RESTING);
        x.sheet(0, 0, 3);
        x.sheet(1, 1, 3);
        x.sheet(2, 2, 3);
        DUE.is("byte 127", x.set(0, 0, 127), 127);
        DUE.is("byte 128", x.set(0, 0, 128), -128);
        DUE.is("byte 200", x.set(0, 0, 200), -56);
        DUE.is("byte 256", x.set(0, 0, 256), 0);
        DUE.is("byte -129", x.set(0, 0, -129), 127);
        DUE.is("byte 261", x.set(0, 1, 256 + 5), 5);
        DUE.is("byte kept", Due.item(x, 0, 1), 5);
        DUE.is("short 32768", x.set(1, 1, 32768), -32768);
        DUE.is("short 70000", x.set(1, 1, 70000), 4464);
        DUE.is("short kept", x.set(1, 2, 65536 + 11), 11);
        DUE.is("short item", Due.item(x, 1, 2), 11);
        DUE.is("int", x.set(2, 2, LEAST), LEAST);
        DUE.is("int", x.set(2, 2, MOST), MOST);
        DUE.is("place -1", x.set(0, -1, 0), PLACE);
        DUE.is("place 3", x.set(0, 3, 0), PLACE);
        DUE.is("place most", x.set(0, MOST, 0), PLACE);
        DUE.is("missing", x.set(3, -1, 0), NULL);
        DUE.is("sheet 8", x.set(8, 0, 0), HotAtSeven.BAD);
        DUE.is("sheet -1", x.set(-1, 0, 0), HotAtSeven.BAD);
        x.sheet(4, 0, 0);
        DUE.is("no items", x.set(4, 0, 0), PLACE);
    }

    private static void copyWithin() {
        HotAtSeven x = DUE.with(Due.RESTING);
        x.sheet(0, 0, 5);
        for (int i = 0; i < 5; i++) x.set(0, i, 10 + i);
        DUE.is("later", x.copy(0, 0, 0, 1, 4), 4);
        int[] later = {10, 10, 11, 12, 13};
        for (int i = 0; i < 5; i++) DUE.is("later " + i, Due.item(x, 0, i), later[i]);
        DUE.is("earlier", x.copy(0, 2, 0, 0, 3), 3);
        int[] earlier = {11, 12, 13, 12, 13};
        for (int i = 0; i < 5; i++) DUE.is("earlier " + i, Due.item(x, 0, i), earlier[i]);
    }

    private static void copyBetween() {
        HotAtSeven x = DUE.with(Due.RESTING);
        x.sheet(0, 1, 3);
        x.sheet(1, 1, 2);
        x.set(0, 1, 7);
        x.set(0, 2, 8);
        DUE.is("copy", x.copy(0, 1, 1, 0, 2), 2);
        DUE.is("item 0", Due.item(x, 1, 0), 7);
        DUE.is("item 1", Due.item(x, 1, 1), 8);
        DUE.is("source stays", Due.item(x, 0, 1), 7);
        DUE.is("none", x.copy(0, 3, 1, 2, 0), 0);
    }

    private static void copyRefused() {
        HotAtSeven x = DUE.with(Due.RESTING);
        x.sheet(0, 1, 3);
        x.sheet(1, 1, 2);
        x.sheet(2, 0, 3);
        int[][] places = {{-1, 0, 1}, {0, -1, 1}, {0, 0, -1}, {0, 0, 3}, {2, 0, 2}, {0, 1, 2}, {4, 0, 0}, {0, 3, 0},
            {MOST, 0, 1}, {0, MOST, MOST}, {1, 0, MOST}, {LEAST, 0, LEAST}, {MOST, MOST, 2}};
        for (int[] p : places) DUE.is("copy " + p[0] + " " + p[1] + " " + p[2], x.copy(0, p[0], 1, p[1], p[2]), PLACE);
        DUE.is("store ahead of place", x.copy(0, -1, 2, 0, 1), STORE);
        DUE.is("status", x.status(), 5);
        DUE.is("null ahead of store", x.copy(3, -1, 2, 0, 1), NULL);
        DUE.is("null, the second", x.copy(2, 0, 3, 0, 1), NULL);
        DUE.is("bad ahead of null", x.copy(3, 0, 8, 0, 1), HotAtSeven.BAD);
        DUE.is("bad", x.copy(-1, 0, 0, 0, 1), HotAtSeven.BAD);
        DUE.is("no items of two lanes", x.copy(0, 0, 2, 0, 0), STORE);
    }

    private static void drop() {
        HotAtSeven x = DUE.with(Due.RESTING);
        x.sheet(2, 1, 17);
        DUE.is("drop", x.drop(2), 17);
        DUE.is("count", x.count(0), 0);
        DUE.is("again", x.drop(2), NULL);
        DUE.is("set", x.set(2, 0, 0), NULL);
        DUE.is("bad", x.drop(8), HotAtSeven.BAD);
        DUE.is("bad", x.drop(-1), HotAtSeven.BAD);
        x.sheet(2, 1, 0);
        DUE.is("no items", x.drop(2), 0);
    }

    private static void status() {
        HotAtSeven x = new HotAtSeven();
        x.drop(0);
        DUE.is("null", x.status(), 1);
        x.drop(9);
        DUE.is("bad leaves it", x.status(), 1);
        x.feed(0, 0);
        x.image(0);
        x.earliest();
        x.judge(0, 0, 5);
        DUE.is("others and STATE leave it", x.status(), 1);
        x.sheet(0, 0, 2);
        DUE.is("none", x.status(), 0);
        x.set(0, 2, 1);
        DUE.is("place", x.status(), 2);
        x.set(0, 1, 1);
        DUE.is("none", x.status(), 0);
        x.sheet(1, 1, 2);
        x.copy(0, 0, 1, 0, 1);
        DUE.is("store", x.status(), 5);
        x.sheet(1, 1, -2);
        DUE.is("size", x.status(), 4);
        DUE.is("book", Due.read(x, Due.RESTING), 1);
        DUE.is("book leaves it", x.status(), 4);
        x.as(0, 1);
        DUE.is("kind", x.status(), 3);
        x.as(1, 1);
        DUE.is("as, bad, leaves it", x.status(), 3);
        x.judge(0, 0, 1);
        DUE.is("judged", x.status(), 0);
        x.judge(0, 2, 1);
        DUE.is("judged, place", x.status(), 2);
        x.judge(5, 2, 1);
        DUE.is("judged, null", x.status(), 1);
        x.judge(5, 2, 0);
        DUE.is("judged, bad", x.status(), 1);
        x.as(0, 4);
        DUE.is("as", x.status(), 0);
    }
}
