import com.sun.management.ThreadMXBean;
import java.lang.management.ManagementFactory;
import java.util.function.IntConsumer;

/** The dearest runs of 512 calls, and how many bytes they allocate: all calls of a run live in one room. */
public final class RoomTest {
    /** 600 bytes a call: nothing is made by calls but a few larger sets of words. */
    private static final long MOST_BYTES = 512L * 600;
    private static final Check CHECK = new Check("RoomTest");
    /** 8 states in a row: the greatest words, the most lessons. */
    private static final String ROW = "0:1,0,0;0:2,0,0;0:3,0,0;0:4,0,0;0:5,0,0;0:6,0,0;0:7,0,0;1:7,0,0";

    private RoomTest() {
    }

    public static void main(String[] args) {
        AskingPupil[] x = new AskingPupil[1];
        measure("new objects alone", i -> x[0] = new AskingPupil());
        measure("costs", i -> begun(x, i, 0).costs(i % 4));
        measure("cheapest", i -> begun(x, i, 0).cheapest());
        for (int m = 0; m < 4; m++) {
            int method = m;
            measure("tests by method " + m, i -> begun(x, i, method).tests(2));
            measure("passes by method " + m, i -> begun(x, i, method).passes(2));
            measure("learning by method " + m, i -> learnAgain(begun(x, i, method), method, i));
            measure("long lessons by method " + m, i -> longLesson(begun(x, i, method), method, i));
        }
        measure("asks", i -> begun(x, i, 0).asks(x[0].word(999999 - 17 * i)));
        measure("sift", i -> begun(x, i, 3).sift(x[0].word(999999 - 17 * i)));
        measure("searches", i -> begun(x, i, 0).like(i % 7, 1 + i % 7));
        measure("draws", i -> begun(x, i, 3).draws(i, 8, 3, 4));
        CHECK.end();
    }

    private static void measure(String what, IntConsumer call) {
        ThreadMXBean threads = (ThreadMXBean) ManagementFactory.getThreadMXBean();
        for (int warm = 0; warm < 2; warm++) {
            long before = threads.getThreadAllocatedBytes(Thread.currentThread().getId());
            for (int i = 0; i < 512; i++) call.accept(i);
            long bytes = threads.getThreadAllocatedBytes(Thread.currentThread().getId()) - before;
            if (warm > 0 && !what.startsWith("new")) CHECK.holds(what + " allocates " + bytes + " bytes", bytes < MOST_BYTES);
            if (warm > 0 && what.startsWith("new")) CHECK.holds(what + " allocate " + bytes + " bytes", bytes < 12L * 1024 * 1024);
        }
    }

    /** The first call makes the object, tells the machine and learns it. */
    private static AskingPupil begun(AskingPupil[] x, int i, int method) {
        if (i > 0) return x[0];
        x[0] = new AskingPupil();
        for (int j = 0; j < ROW.length(); j += 4) {
            int four = 0;
            for (int k = j; k < j + 4; k++) four = four << 8 | (k < ROW.length() ? ROW.charAt(k) : 0);
            x[0].sign(four);
        }
        x[0].end(ROW.length());
        CHECK.due("states", x[0].machine(), 8);
        x[0].method(method);
        CHECK.due("states learnt by method " + method, x[0].learns(), 8);
        CHECK.due("errs() behind method " + method, x[0].errs(), 0);
        return x[0];
    }

    private static void learnAgain(AskingPupil x, int method, int i) {
        if (i % 2 == 0) x.method(method);
        else x.learns();
    }

    /** Lessons of 14 letters until all is learnt, then from new on. */
    private static void longLesson(AskingPupil x, int method, int i) {
        if (i % 40 == 0) x.method(method);
        if (i % 2 == 0) {
            x.guess();
            return;
        }
        long word = 1;
        for (int n = 0; n < 14; n++) word = 4 * word + (n < 6 - i % 40 / 2 ? i % 2 + 1 : 0);
        x.tells(word);
        CHECK.holds("few heads", x.head(-1) < 128);
        CHECK.holds("few tails", x.tail(-1) < 128);
    }
}
