import java.io.IOException;
import java.io.UncheckedIOException;
import java.nio.file.Files;
import java.nio.file.Path;

/** What the tests share: answers against what is due, and texts fed to an object. */
final class Due {
    private static final Path DOCUMENT = Path.of("../shared/DOC.md");
    private final String test;
    private String words = "";
    private int asked = 0;
    private int wrong = 0;

    Due(String test) {
        this.test = test;
    }

    /** The answers that follow hold to these words, which must stand in the document just so. */
    void of(String words) {
        this.words = "'" + words + "': ";
        try {
            is("words of the document", Files.readString(DOCUMENT).contains(words) ? 1 : 0, 1);
        } catch (IOException gone) {
            throw new UncheckedIOException(gone);
        }
    }

    void is(String call, long got, long want) {
        asked++;
        if (got != want) {
            wrong++;
            if (wrong <= 40) System.out.println(test + ": " + words + call + " answered " + got + ", due is " + want);
        }
    }

    void end() {
        System.out.println(test + ": " + asked + " answers, " + wrong + " not as due");
        if (wrong != 0 || asked == 0) System.exit(1);
    }

    boolean failed() {
        return wrong != 0;
    }

    /** A new object that has read a text, which is to be a good one. */
    HotAtSeven with(String text) {
        HotAtSeven x = new HotAtSeven();
        int dishes = read(x, text);
        is("read " + text, dishes > 0 ? 1 : dishes, 1);
        return x;
    }

    /** The text is read, and tells so many dishes. */
    void reads(String text, int dishes) {
        HotAtSeven x = new HotAtSeven();
        is(text, read(x, text), dishes);
        is("no fault: " + text, x.fault(), 0);
        is("empty then: " + text, x.count(6), 0);
    }

    /** The text is not read, for a fault at a place. */
    void fails(String text, int place, int fault) {
        HotAtSeven x = new HotAtSeven();
        is(text, read(x, text), -1000100 - place);
        is("fault: " + text, x.fault(), fault);
        is("empty then: " + text, x.count(6), 0);
        is("no book: " + text, x.earliest(), HotAtSeven.STATE);
    }

    /** Lays beginnings on sheet 5 and has them judged. */
    void judged(HotAtSeven x, int t, int want, int... begins) {
        x.sheet(5, 2, begins.length);
        for (int i = 0; i < begins.length; i++) x.set(5, i, begins[i]);
        StringBuilder at = new StringBuilder("judge by " + t + ":");
        for (int b : begins) at.append(' ').append(b);
        is(at.toString(), x.judge(5, 0, t), want);
    }

    /** The cost of LEAST, the choices by which it is, and that there are no more of them. */
    void least(HotAtSeven x, int t, int cost, int... choices) {
        is("cost by " + t, x.least(t, -1), cost);
        for (int k = 0; k < choices.length; k++) is("choice by " + t + " of " + k, x.least(t, k), choices[k]);
        is("no more choices", x.least(t, choices.length), HotAtSeven.NONE);
        is("far more choices", x.least(t, Integer.MAX_VALUE), HotAtSeven.NONE);
    }

    void begins(HotAtSeven x, int t, int... begins) {
        for (int k = 0; k < begins.length; k++) is("begins by " + t + " of " + k, x.begins(t, k), begins[k]);
        is("no more steps", x.begins(t, begins.length), HotAtSeven.NONE);
        is("far more steps", x.begins(t, Integer.MAX_VALUE), HotAtSeven.NONE);
    }

    /** Feeds a text in pieces of 8 bytes; the last answer of feed. */
    static int feed(HotAtSeven x, String text) {
        int answer = 0;
        for (int at = 0; at < text.length(); at += 8) {
            int n = Math.min(8, text.length() - at);
            long w = 0;
            for (int i = 0; i < n; i++) w = w << 8 | text.charAt(at + i) & 255;
            answer = x.feed(w, n);
        }
        return answer;
    }

    static int read(HotAtSeven x, String text) {
        feed(x, text);
        return x.book();
    }

    /** A book of one dish that rests a minute and wants nothing. */
    static final String RESTING = "kitchen 0 0 0 0 0 1 0;dish 0 0 0;rest 1 0;";

    /**
     * An item from 0 to 59 of a sheet, as judge() sees it by the book RESTING, which is done at its
     * beginning and 1; -1: another item.
     */
    static int item(HotAtSeven x, int sheet, int i) {
        for (int t = 1; t <= 60; t++) if (x.judge(sheet, i, t) == 0) return t - 1;
        return -1;
    }
}
