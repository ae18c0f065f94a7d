/** The boundary cases that promises 26 to 33 name, a test for each sentence. */
public final class GuessBoundaryTest extends Hand {
    private static final int MIN = Integer.MIN_VALUE;
    private static final int MAX = Integer.MAX_VALUE;

    private GuessBoundaryTest() {
    }

    public static void main(String[] args) {
        check = new Check("GuessBoundaryTest");
        withoutGuess();
        statesWithoutGuess();
        guessed();
        guessedOthers();
        access();
        reads();
        readsNoWord();
        errs();
        errsOfWhatIsRight();
        farthestError();
        wrongUpToEight();
        wrongOfManyStates();
        wrongByOtherNumbers();
        testsUpToTwo();
        testsTellThreeNumbers();
        testsByOtherNumbers();
        mostTests();
        passesFirst();
        passesOfWhatIsRight();
        passesByOtherNumbers();
        parted();
        partedByNothing();
        partedOthers();
        check.end();
    }

    private static void withoutGuess() {
        about("the guess (-2: there is none)");
        Call[] calls = {x -> x.guessed(0, 0), x -> x.access(0), x -> x.reads(1), x -> x.errs(), x -> x.wrong(0), x -> x.tests(0),
            x -> x.passes(0), x -> x.parted(0, 0)};
        for (int m = 0; m < 4; m++) {
            for (int i = 0; i < calls.length; i++) {
                AskingPupil x = with(ROWS, m);
                due("call " + i + " at first", calls[i].on(x), -2);
                x.guess();
                due("call " + i + " with one", calls[i].on(x) >= 0, true);
                x.tells(w("000"));
                due("call " + i + " behind a lesson", calls[i].on(x), -2);
                if (x.step() != 0) due("call " + i + " behind a step that is not the last", calls[i].on(x), -2);
                x.learns();
                due("call " + i + " behind learns()", calls[i].on(x) >= 0, true);
                x.method(m);
                due("call " + i + " behind method()", calls[i].on(x), -2);
                x.learns();
                tell(x, ROWS);
                due("call " + i + " behind machine()", calls[i].on(x), -2);
                x.learns();
                x.draws(1, 8, 2, 4);
                due("call " + i + " behind draws()", calls[i].on(x), -2);
            }
        }
    }

    private static void statesWithoutGuess() {
        about("the guess (of STATES those below 0 and those above 7 alone are none such then)");
        AskingPupil x = new AskingPupil();
        for (int s = 0; s <= 7; s++) {
            due("guessed(" + s + ", 1)", x.guessed(s, 1), -2);
            due("access(" + s + ")", x.access(s), -2);
            due("parted(" + s + ", " + (7 - s) + ")", x.parted(s, 7 - s), -2);
        }
        for (int s : new int[] {-1, 8, -2, 9, MIN, MAX}) {
            due("guessed(" + s + ", 1)", x.guessed(s, 1), -1);
            due("access(" + s + ")", x.access(s), -1);
            due("parted(" + s + ", 7)", x.parted(s, 7), -1);
            due("parted(7, " + s + ")", x.parted(7, s), -1);
            due("parted(" + s + ", " + s + ")", x.parted(s, s), -1);
        }
        x.guess();
        due("access(0) with a guess of one state", x.access(0), 1);
        for (int s = 1; s <= 7; s++) {
            due("guessed(" + s + ", 1) with it", x.guessed(s, 1), -1);
            due("access(" + s + ") with it", x.access(s), -1);
            due("parted(0, " + s + ") with it", x.parted(0, s), -1);
            due("parted(" + s + ", 0) with it", x.parted(s, 0), -1);
        }
    }

    private static void guessed() {
        about("26: Of a STATE of GUESS, what 0: OUTPUT, 1 and x: the STATE that comes by LETTER x");
        for (int m = 0; m < 4; m++) {
            AskingPupil x = learnt("3:2,1,0;1:1,0,2;2:0,2,1", m);
            // STATES are numbered as their HEADS came: by 0 the one that the MACHINE calls 2, by 1 the one it calls 1.
            int[][] states = {{3, 1, 2, 0}, {2, 0, 1, 2}, {1, 2, 0, 1}};
            for (int s = 0; s < 3; s++) {
                for (int what = 0; what <= 3; what++) due("guessed(" + s + ", " + what + ")", x.guessed(s, what), states[s][what]);
            }
        }
    }

    private static void guessedOthers() {
        about("26: NONE for others");
        String[] texts = {"2:0", "2:0,0", "2:0,0,0"};
        for (int l = 1; l <= 3; l++) {
            AskingPupil x = learnt(texts[l - 1], 0);
            due("the last letter", x.guessed(0, l), 0);
            for (int what : new int[] {l + 1, l + 2, -1, -2, MIN, MAX}) due("guessed(0, " + what + ")", x.guessed(0, what), -1);
            x.method(0);
            due("the last letter, without a guess", x.guessed(0, l), -2);
            for (int what : new int[] {l + 1, -1, MIN, MAX}) due("guessed(0, " + what + "), without one", x.guessed(0, what), -1);
        }
        AskingPupil y = learnt(MOST, 2);
        due("the last of all", y.guessed(7, 3) >= 0, true);
        due("a state behind", y.guessed(8, 3), -1);
    }

    private static void access() {
        about("27: CODE of its ACCESS");
        for (int m = 0; m < 4; m++) {
            AskingPupil x = learnt(MOST, m);
            due("access(0)", x.access(0), 1);
            for (int s = 0; s < 8; s++) due("ACCESS of state " + s + " comes to it", x.reads(x.access(s)), s);
            for (int s : new int[] {8, 9, -1, MIN, MAX}) due("access(" + s + ")", x.access(s), -1);
        }
    }

    private static void reads() {
        about("28: The END of a WORD in GUESS; the ROW: its ANSWER there");
        AskingPupil x = guessing(THREE, 0);
        due("reads(00) by one state", x.reads(w("00")), 0);
        dueRow("reads(00), as GUESS answers, not as the MACHINE", x, 0);
        x.learns();
        for (int n = 0; n <= 30; n++) {
            due("reads() of " + n + " letters", x.reads(w(zeros(n))), n % 3);
            dueRow("reads() of " + n + " letters", x, n % 3 == 2 ? 1 : 0);
        }
    }

    private static void readsNoWord() {
        about("28: NONE: no such CODE");
        AskingPupil x = learnt(ODD, 0);
        x.groups(0);
        for (long code : new long[] {0, -1, 2, 3, w("2"), w("02"), w(zeros(31)), Long.MIN_VALUE, Long.MAX_VALUE}) {
            due("reads(" + code + ")", x.reads(code), -1);
            dueRow("groups(), that stays", x, 0, 1);
        }
    }

    private static void errs() {
        about("29: CODE of the first WORD in ORDER by which GUESS and MACHINE answer unlike");
        AskingPupil x = guessing(ROWS, 0);
        due("errs()", x.errs(), w("000"));
        AskingPupil y = guessing("0:1,2;0:0,3;0:3,0;1:0,0", 0);
        due("errs(): of 01 and 10 the lesser", y.errs(), w("01"));
        AskingPupil z = guessing("0:1,2;0:3,0;0:0,4;0:5,0;1:0,0;1:0,0", 0);
        due("errs(): of 000 and 11 the shorter", z.errs(), w("11"));
    }

    private static void errsOfWhatIsRight() {
        about("29: 0: none");
        for (int m = 0; m < 4; m++) {
            due("errs() of one state", guessing("2:0,0", m).errs(), 0);
            due("errs() of two states", guessing(ODD, m).errs(), 0);
            due("errs() of what is learnt", learnt(MOST, m).errs(), 0);
            due("errs() of states that no word comes to", guessing("0:0,0;1:1,1", m).errs(), 0);
        }
    }

    private static void farthestError() {
        about("29: the first WORD, though it is as long as can be");
        AskingPupil x = guessing(MOST, 0);
        due("errs() of one state", x.errs(), w(zeros(7)));
        due("passes(2) looks not so far", x.passes(2), 0);
        // The outputs come again after 8 letters; the second guess takes them to come again after 7.
        AskingPupil y = guessing("0:1;0:2;0:3;0:4;0:5;1:6;0:7;0:0", 1);
        due("errs() of one state", y.errs(), w(zeros(5)));
        y.tells(y.errs());
        due("states", y.guess(), 7);
        due("errs() of 7 states", y.errs(), w(zeros(13)));
        due("tells() of 13 letters", y.tells(y.errs()), 8);
        due("states", y.guess(), 8);
        due("errs() of 8 states", y.errs(), 0);
    }

    private static void wrongUpToEight() {
        about("30: How many WORDS of at most k (0 .. 8) LETTERS answer unlike; the ROW: how many there are");
        String[] texts = {"0:1;0:2;0:3;0:4;0:5;0:6;0:7;1:7", "0:1,1;0:2,2;0:3,3;0:4,4;0:5,5;0:6,6;0:7,7;1:7,7",
            "0:1,1,1;0:2,2,2;0:3,3,3;0:4,4,4;0:5,5,5;0:6,6,6;0:7,7,7;1:7,7,7"};
        for (int l = 1; l <= 3; l++) {
            AskingPupil x = guessing(texts[l - 1], 0);
            int all = 0;
            int unlike = 0;
            int many = 1;
            for (int k = 0; k <= 8; k++) {
                all += many;
                if (k >= 7) unlike += many;
                many *= l;
                due("wrong(" + k + ") of " + l + " letters", x.wrong(k), unlike);
                dueRow("wrong(" + k + ") of " + l + " letters", x, all);
            }
            x.learns();
            due("wrong(8) of what is learnt", x.wrong(8), 0);
            dueRow("wrong(8) of what is learnt", x, all);
        }
    }

    private static void wrongOfManyStates() {
        about("30: How many WORDS of at most k LETTERS GUESS, of more than one STATE, and MACHINE answer unlike");
        String[] texts = {"0:1;1:2;0:3;1:4;0:5;1:6;0:0", "0:1,1;1:2,2;0:3,3;1:4,4;0:5,5;1:6,6;0:0,0",
            "0:1,1,1;1:2,2,2;0:3,3,3;1:4,4,4;0:5,5,5;1:6,6,6;0:0,0,0"};
        int[] ofSeven = {1, 128, 2187};
        for (int l = 1; l <= 3; l++) {
            AskingPupil x = guessing(texts[l - 1], 0);
            due("states", x.count(6), 2);
            // GUESS shows 0 and 1 by turns; the MACHINE begins again behind 7 LETTERS.
            for (int k = 0; k < 7; k++) due("wrong(" + k + ") of " + l + " letters", x.wrong(k), 0);
            due("wrong(7) of " + l + " letters", x.wrong(7), ofSeven[l - 1]);
            due("wrong(8) of " + l + " letters", x.wrong(8), ofSeven[l - 1] * (1 + l));
        }
    }

    private static void wrongByOtherNumbers() {
        about("30: NONE: another k");
        AskingPupil x = with(ROWS);
        for (int turn = 0; turn < 2; turn++) {
            for (int k : new int[] {-1, 9, MIN, MAX}) due("wrong(" + k + ")", x.wrong(k), -1);
            due("wrong(0)", x.wrong(0), turn == 0 ? -2 : 0);
            due("wrong(8)", x.wrong(8), turn == 0 ? -2 : 63);
            x.guess();
        }
    }

    private static void testsUpToTwo() {
        about("31: How many unlike WORDS TESTS of k (0 .. 2) are");
        AskingPupil x = learnt(ODD, 0);
        // p: nothing, 0, 1, 00, 01; m: all of at most k letters; e: nothing.
        due("tests(0)", x.tests(0), 5);
        due("tests(1): all of at most 2, and 000 to 011", x.tests(1), 7 + 4);
        due("tests(2): all of at most 3, and 0000 to 0111", x.tests(2), 15 + 8);
        AskingPupil y = learnt(THREE, 0);
        // p: nothing to 000; e: nothing and 0: one word of each length.
        due("tests(0) of one letter", y.tests(0), 5);
        due("tests(1) of one letter", y.tests(1), 6);
        due("tests(2) of one letter", y.tests(2), 7);
        AskingPupil z = learnt("1:0,0,0", 3);
        due("tests(0) of one state", z.tests(0), 1 + 3);
        due("tests(1) of one state", z.tests(1), 1 + 3 + 9);
        due("tests(2) of one state", z.tests(2), 1 + 3 + 9 + 27);
    }

    private static void testsTellThreeNumbers() {
        about("31: the ROW: LETTERS of all of them, the greatest length, how many were ASKED");
        AskingPupil x = learnt(ODD, 0);
        x.tests(0);
        dueRow("tests(0)", x, 6, 2, 5);
        x.tests(1);
        dueRow("tests(1)", x, 2 + 8 + 12, 3, 5);
        x.asks(w("000"));
        x.asks(w("100"));
        x.tests(1);
        dueRow("tests(1), behind asking one of them and one other", x, 2 + 8 + 12, 3, 6);
        x.tests(2);
        dueRow("tests(2)", x, 2 + 8 + 24 + 32, 4, 7);
        AskingPupil y = guessing("1:0", 0);
        y.tests(0);
        dueRow("tests(0) of one state", y, 1, 1, 2);
    }

    private static void testsByOtherNumbers() {
        about("31: NONE: another k");
        AskingPupil x = with(ROWS);
        for (int turn = 0; turn < 2; turn++) {
            for (int k : new int[] {-1, 3, MIN, MAX}) due("tests(" + k + ")", x.tests(k), -1);
            due("tests(0)", x.tests(0), turn == 0 ? -2 : 3);
            due("tests(2)", x.tests(2), turn == 0 ? -2 : 15);
            x.guess();
        }
    }

    private static void mostTests() {
        about("31: TESTS of 8 STATES of 3 LETTERS");
        for (int m = 0; m < 4; m++) {
            AskingPupil x = learnt(MOST, m);
            SlowPupil slow = slow(MOST, m);
            slow.learns();
            for (int k = 0; k <= 2; k++) {
                due("tests(" + k + ")", x.tests(k), slow.tests(k));
                dueRow("tests(" + k + ")", x, slow.row(0), slow.row(1), slow.row(2));
            }
            // p has at most 8 letters, m at most 2, e at most 6.
            due("the greatest length", x.row(1), 16);
        }
    }

    private static void passesFirst() {
        about("32: CODE of the first in ORDER of TESTS of k by which GUESS and MACHINE answer unlike");
        AskingPupil x = guessing(ROWS, 0);
        due("passes(0): at most 1 letter", x.passes(0), 0);
        due("passes(1): at most 2 letters", x.passes(1), 0);
        due("passes(2): at most 3 letters", x.passes(2), w("000"));
        AskingPupil y = guessing("0:1,2;0:0,3;0:3,0;1:0,0", 0);
        due("passes(1): of 01 and 10 the lesser", y.passes(1), w("01"));
        due("passes(2)", y.passes(2), w("01"));
        AskingPupil z = guessing("0:1,2;0:3,0;0:0,4;0:5,0;1:0,0;1:0,0", 0);
        due("passes(2): of 000 and 11 the shorter", z.passes(2), w("11"));
        due("it is asked by none of these", z.known(w("11")), 0);
    }

    private static void passesOfWhatIsRight() {
        about("32: 0: none");
        for (int m = 0; m < 4; m++) {
            AskingPupil x = learnt(MOST, m);
            for (int k = 0; k <= 2; k++) due("passes(" + k + ")", x.passes(k), 0);
        }
    }

    private static void passesByOtherNumbers() {
        about("32: NONE: another k");
        AskingPupil x = with(ROWS);
        for (int turn = 0; turn < 2; turn++) {
            for (int k : new int[] {-1, 3, MIN, MAX}) due("passes(" + k + ")", x.passes(k), -1);
            due("passes(0)", x.passes(0), turn == 0 ? -2 : 0);
            due("passes(2)", x.passes(2), turn == 0 ? -2 : w("000"));
            x.guess();
        }
    }

    private static void parted() {
        about("33: CODE of the first WORD in ORDER by which two STATES of GUESS answer unlike");
        AskingPupil x = learnt(THREE, 0);
        long[][] words = {{0, w("0"), 1}, {w("0"), 0, 1}, {1, 1, 0}};
        for (int p = 0; p < 3; p++) {
            for (int q = 0; q < 3; q++) due("parted(" + p + ", " + q + ")", x.parted(p, q), words[p][q]);
        }
        AskingPupil y = learnt("0:1;0:2;0:3;0:4;0:5;0:6;0:7;1:7", 1);
        due("the longest of 8 states", y.parted(0, 1), w(zeros(6)));
    }

    private static void partedByNothing() {
        about("33: 0: none");
        AskingPupil x = learnt(MOST, 3);
        for (int s = 0; s < 8; s++) due("parted(" + s + ", " + s + ")", x.parted(s, s), 0);
        // By METHODS 2 and 3 two STATES can answer alike, though their LINES, or LEAVES, are unlike.
        for (int m = 2; m <= 3; m++) {
            AskingPupil y = guessing("0:1;0:2;0:3;1:0", m);
            y.tells(w("000"));
            due("states", y.guess(), 2);
            due("parted(0, 1)", y.parted(0, 1), 0);
            due("parted(1, 0)", y.parted(1, 0), 0);
        }
    }

    private static void partedOthers() {
        about("33: NONE: no such STATE");
        AskingPupil x = learnt(THREE, 3);
        due("parted(2, 2)", x.parted(2, 2), 0);
        for (int s : new int[] {3, 7, 8, -1, MIN, MAX}) {
            due("parted(0, " + s + ")", x.parted(0, s), -1);
            due("parted(" + s + ", 0)", x.parted(s, 0), -1);
            due("parted(" + s + ", " + s + ")", x.parted(s, s), -1);
        }
    }
}
