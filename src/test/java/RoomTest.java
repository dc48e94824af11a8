import java.lang.management.ManagementFactory;
import java.util.Random;

/** The room: an object is small, and no call makes anything, however dear it is. */
public final class RoomTest {
    private static final Due DUE = new Due("RoomTest");

    public static void main(String[] args) {
        com.sun.management.ThreadMXBean room = (com.sun.management.ThreadMXBean) ManagementFactory.getThreadMXBean();
        long id = Thread.currentThread().getId();
        String text = PlainTest.book(new Random(4));
        long[] words = new long[text.length()];
        for (int i = 0; i < words.length; i++) words[i] = text.charAt(i);
        run(new HotAtSeven(), words);
        room.getThreadAllocatedBytes(id);
        long before = room.getThreadAllocatedBytes(id);
        HotAtSeven x = new HotAtSeven();
        long made = room.getThreadAllocatedBytes(id) - before;
        before = room.getThreadAllocatedBytes(id);
        run(x, words);
        long calls = room.getThreadAllocatedBytes(id) - before;
        System.out.println("an object: " + made + " bytes; its calls: " + calls + " bytes");
        DUE.is("an object is small: " + made, made < 65536 ? 1 : 0, 1);
        DUE.is("calls make next to nothing: " + calls, calls < 2048 ? 1 : 0, 1);
        DUE.end();
    }

    private static void run(HotAtSeven x, long[] words) {
        for (int i = 0; i < 3; i++) {
            for (long w : words) x.feed(w, 1);
            x.book();
            x.image(i % 2);
            x.sheet(0, 2, 40);
            x.set(0, 0, 5);
            x.dinner(3);
            for (int t = 1; t <= 60; t++) {
                x.least(t, -1);
                x.heat(t, 59);
                x.wanted(t, 30, 0);
                x.slack(t, 0);
                x.bears(t, 0, 1);
                x.mind(t, 0);
                x.mend(t, 5);
                x.more(t);
                x.seven(t);
                x.judge(0, 0, t);
                x.dinners(1 + t % 3, t, 0);
            }
            x.earliest();
            x.restore(i % 2);
            x.ask(0, 0);
            x.ask(0, 1);
            x.out(7);
            x.drop(0);
        }
    }
}
