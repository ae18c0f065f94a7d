import com.sun.management.ThreadMXBean;
import java.lang.management.ManagementFactory;
import java.util.function.IntConsumer;

/** The dearest runs of 512 calls, and how many bytes they allocate: all calls of a run live in one room. */
public final class RoomTest extends Hand {
    /** Words of 13 letters, told beforehand: what a test makes would be measured, too. */
    private static final long[] CODES = new long[512];
    /** As many calls as an object is used for, short of those that tell and learn the machine. */
    private static final int CALLS = 512 - 24;
    /** 600 bytes a call: nothing is made by calls but a few larger sets of words. */
    private static final long MOST_BYTES = 512L * 600;

    private RoomTest() {
    }

    public static void main(String[] args) {
        check = new Check("RoomTest");
        for (int i = 0; i < CODES.length; i++) CODES[i] = kth(999999 - 17 * i, 3);
        AskingPupil[] x = new AskingPupil[1];
        measure("new objects alone", CALLS, i -> x[0] = new AskingPupil());
        measure("costs", CALLS, i -> begun(x, i, 0).costs(i % 4));
        measure("cheapest", CALLS, i -> begun(x, i, 0).cheapest());
        for (int m = 0; m < 4; m++) {
            int method = m;
            measure("tests by method " + m, CALLS, i -> begun(x, i, method).tests(2));
            measure("passes by method " + m, CALLS, i -> begun(x, i, method).passes(2));
            measure("learning by method " + m, CALLS, i -> learnAgain(begun(x, i, method), method, i));
            measure("long lessons by method " + m, CALLS / 3, i -> longLesson(begun(x, i, method), method, i));
        }
        measure("asks", CALLS, i -> begun(x, i, 0).asks(CODES[i]));
        measure("sift", CALLS, i -> begun(x, i, 3).sift(CODES[i]));
        measure("searches", CALLS, i -> begun(x, i, 0).like(i % 7, 1 + i % 7));
        measure("draws", CALLS, i -> begun(x, i, 3).draws(i, 8, 3, 4));
        check.end();
    }

    private static void measure(String what, int turns, IntConsumer turn) {
        ThreadMXBean threads = (ThreadMXBean) ManagementFactory.getThreadMXBean();
        for (int warm = 0; warm < 2; warm++) {
            long before = threads.getThreadAllocatedBytes(Thread.currentThread().getId());
            for (int i = 0; i < turns; i++) turn.accept(i);
            long bytes = threads.getThreadAllocatedBytes(Thread.currentThread().getId()) - before;
            if (warm > 0 && !what.startsWith("new")) check.holds(what + " allocates " + bytes + " bytes", bytes < MOST_BYTES);
            if (warm > 0 && what.startsWith("new")) check.holds(what + " allocate " + bytes + " bytes", bytes < 12L * 1024 * 1024);
        }
    }

    /** The first call makes the object, tells the machine and learns it. */
    private static AskingPupil begun(AskingPupil[] x, int i, int method) {
        if (i > 0) return x[0];
        x[0] = new AskingPupil();
        check.due("states", tell(x[0], MOST), 8);
        x[0].method(method);
        check.due("states learnt by method " + method, x[0].learns(), 8);
        check.due("errs() behind method " + method, x[0].errs(), 0);
        return x[0];
    }

    private static void learnAgain(AskingPupil x, int method, int i) {
        if (i % 2 == 0) x.method(method);
        else x.learns();
    }

    /** Lessons of 14 letters until all is learnt, then from new on. */
    private static void longLesson(AskingPupil x, int method, int i) {
        if (i % 20 == 0) x.method(method);
        if (i % 2 == 0) {
            x.guess();
            return;
        }
        long word = 1;
        for (int n = 0; n < 14; n++) word = 4 * word + (n < 6 - i % 20 / 2 ? i % 2 + 1 : 0);
        x.tells(word);
        check.holds("few heads", x.head(-1) < 128);
        check.holds("few tails", x.tail(-1) < 128);
    }
}
