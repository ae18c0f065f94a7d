/**
 * "An object is used for at most 512 calls after it has been made": runs of just so many calls, each of a kind that
 * keeps or makes much, whose last calls must answer as due.
 */
public final class CallsBoundaryTest extends Hand {
    private static final int MOST_CALLS = 512;
    /** Counts the calls of the object that is used now. */
    private static int calls;

    private CallsBoundaryTest() {
    }

    public static void main(String[] args) {
        check = new Check("CallsBoundaryTest");
        about("An object is used for at most 512 calls after it has been made");
        asksEachTime();
        for (int m = 0; m < 3; m++) longLessonsThenAsks(m);
        siftsEachTime();
        learnsEachTime();
        drawsEachTime();
        textsEachTime();
        looksEachTime();
        check.end();
    }

    private static long call(AskingPupil x, Call call) {
        calls++;
        return call.on(x);
    }

    private static int left() {
        return MOST_CALLS - calls;
    }

    /** The most of machines, told by 18 calls. */
    private static AskingPupil most() {
        AskingPupil x = new AskingPupil();
        calls = 0;
        for (int i = 0; i < MOST.length(); i += 4) {
            int signs = four(MOST, i);
            call(x, y -> y.sign(signs));
        }
        call(x, y -> y.end(MOST.length()) ? 1 : 0);
        due("machine()", call(x, y -> y.machine()), 8);
        return x;
    }

    private static int lettersOf(long word) {
        return Long.toString(word, 4).length() - 1;
    }

    private static void asksEachTime() {
        for (int what = 3; what <= 4; what++) {
            int last = what;
            AskingPupil x = most();
            int words = 0;
            int letters = 0;
            for (int k = 0; left() > 1; k++) {
                long word = kth(k, 3);
                due("asks() at call " + calls, call(x, y -> y.asks(word)), 0);
                words++;
                letters += lettersOf(word);
            }
            due("the last call", call(x, y -> y.count(last)), last == 3 ? words : words + letters);
            due("calls", calls, MOST_CALLS);
        }
    }

    /** Seven lessons of 14 letters each, each of which errs by its last letters alone, fill the table. */
    private static void longLessonsThenAsks(int m) {
        AskingPupil x = most();
        SlowPupil slow = slow(MOST, m);
        call(x, y -> y.method(m));
        for (int i = 0; i < 7; i++) {
            due("guess()", call(x, y -> y.guess()), slow.guess());
            if (slow.errs() == 0) break;
            long word = slow.errs();
            long behind = w((i % 2 == 0 ? "12" : "21").repeat(7).substring(0, 14 - lettersOf(word)));
            long lesson = slow.joins(behind, word);
            due("tells()", call(x, y -> y.tells(lesson)), slow.tells(lesson));
        }
        due("learns()", call(x, y -> y.learns()), slow.learns());
        for (int k = 0; left() > 2; k++) {
            long word = kth(900000 + 23 * k, 3);
            due("asks()", call(x, y -> y.asks(word)), slow.asks(word));
        }
        due("COST, by method " + m, call(x, y -> y.count(4)), slow.count(4));
        due("words asked, by method " + m, call(x, y -> y.count(3)), slow.count(3));
        due("calls", calls, MOST_CALLS);
    }

    private static void siftsEachTime() {
        AskingPupil x = most();
        SlowPupil slow = slow(MOST, 3);
        call(x, y -> y.method(3));
        due("learns()", call(x, y -> y.learns()), slow.learns());
        for (int k = 0; left() > 2; k++) {
            // Behind words of 8 letters seven 0s, by which most KNOTS are met.
            long word = slow.joins(kth(4000 + 11 * k, 3), w(zeros(7)));
            due("sift()", call(x, y -> y.sift(word)), slow.sift(word));
        }
        due("COST of sifts", call(x, y -> y.count(4)), slow.count(4));
        due("words asked by sifts", call(x, y -> y.count(3)), slow.count(3));
        due("calls", calls, MOST_CALLS);
    }

    private static void learnsEachTime() {
        int[] asked = new int[4];
        for (int m = 0; m < 4; m++) {
            SlowPupil slow = slow(MOST, m);
            slow.learns();
            asked[m] = slow.count(3);
        }
        AskingPupil x = most();
        for (int i = 0; left() > 3; i++) {
            int m = i % 4;
            call(x, y -> y.method(m));
            due("learns()", call(x, y -> y.learns()), 8);
            due("words asked", call(x, y -> y.count(3)), asked[m]);
        }
        while (left() > 1) call(x, y -> y.cheapest());
        due("errs() at the last call", call(x, y -> y.errs()), 0);
        due("calls", calls, MOST_CALLS);
    }

    private static void drawsEachTime() {
        AskingPupil x = new AskingPupil();
        AskingPupil once = new AskingPupil();
        calls = 0;
        for (int seed = 1; left() > 1; seed++) {
            int drawn = seed;
            due("draws()", call(x, y -> y.draws(drawn, 8, 3, 4)) > 0, true);
        }
        once.draws(MOST_CALLS - 1, 8, 3, 4);
        due("learns() at the last call", call(x, y -> y.learns()), once.learns());
        due("calls", calls, MOST_CALLS);
    }

    private static void textsEachTime() {
        AskingPupil x = new AskingPupil();
        calls = 0;
        while (left() >= 4) {
            due("sign()", call(x, y -> y.sign(0x303A3000)), 4);
            due("end()", call(x, y -> y.end(3) ? 1 : 0), 1);
            due("machine()", call(x, y -> y.machine()), 1);
            due("machine() of nothing", call(x, y -> y.machine()), -21);
        }
        due("calls", calls, MOST_CALLS);
    }

    private static void looksEachTime() {
        Call[] looks = {y -> y.tests(2), y -> y.passes(2), y -> y.cheapest(), y -> y.wrong(8), y -> y.costs(0), y -> y.costs(1),
            y -> y.costs(2), y -> y.costs(3), y -> y.errs(), y -> y.least(), y -> y.groups(7), y -> y.parted(0, 7), y -> y.like(0, 1)};
        for (int i = 0; i < looks.length; i++) {
            Call look = looks[i];
            AskingPupil x = most();
            call(x, y -> y.learns());
            long first = call(x, look);
            while (left() > 1) call(x, look);
            due("look " + i + " at the last call", call(x, look), first);
            due("calls", calls, MOST_CALLS);
        }
    }
}
