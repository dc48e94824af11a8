/** What the tests share: answers against what is due, and texts fed to an object. */
final class Due {
    private final String test;
    private int asked = 0;
    private int wrong = 0;

    Due(String test) {
        this.test = test;
    }

    void is(String call, long got, long want) {
        asked++;
        if (got != want) {
            wrong++;
            if (wrong <= 40) System.out.println(test + ": " + call + " answered " + got + ", due is " + want);
        }
    }

    void end() {
        System.out.println(test + ": " + asked + " answers, " + wrong + " not as due");
        if (wrong != 0 || asked == 0) System.exit(1);
    }

    boolean failed() {
        return wrong != 0;
    }

    /** A new object that has read a text, which is to be a good one. */
    HotAtSeven with(String text) {
        HotAtSeven x = new HotAtSeven();
        int dishes = read(x, text);
        is("read " + text, dishes > 0 ? 1 : dishes, 1);
        return x;
    }

    /** Feeds a text in pieces of 8 bytes; the last answer of feed. */
    static int feed(HotAtSeven x, String text) {
        int answer = 0;
        for (int at = 0; at < text.length(); at += 8) {
            int n = Math.min(8, text.length() - at);
            long w = 0;
            for (int i = 0; i < n; i++) w = w << 8 | text.charAt(at + i) & 255;
            answer = x.feed(w, n);
        }
        return answer;
    }

    static int read(HotAtSeven x, String text) {
        feed(x, text);
        return x.book();
    }
}
