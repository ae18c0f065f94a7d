/** The boundary cases that promises 12 to 25 name, a test for each sentence. */
public final class PupilBoundaryTest extends Hand {
    private static final int MIN = Integer.MIN_VALUE;
    private static final int MAX = Integer.MAX_VALUE;
    /** By 0 and by 1 it comes to states that show 1 and 2: heads of their own. */
    private static final String THREE_HEADS = "0:1,2;1:0,0;2:0,0";

    private PupilBoundaryTest() {
    }

    public static void main(String[] args) {
        check = new Check("PupilBoundaryTest");
        prices();
        pricesRefused();
        methods();
        methodsRefused();
        sameMethodIsNewToo();
        asked();
        askedNoWord();
        known();
        knownByWhatAsks();
        stepNumbers();
        stepZeroTellsOneNumber();
        stepCountsNewWordsAlone();
        stepWithGuess();
        guessCountsSteps();
        guessOfGuess();
        lessonsOfFourteen();
        lessonsTooLong();
        lessonsWithoutGuess();
        lessonsOfWhatIsRight();
        lessonsTellWhatCame();
        learnsCounts();
        learnsAgain();
        learnsOn();
        heads();
        tails();
        leavesAndKnots();
        cells();
        cellsOfNothing();
        cellsOfTree();
        cellsNotAsked();
        linesOfHeads();
        linesTellTwoNumbers();
        linesOfTree();
        linesNotAsked();
        knots();
        knotsOfTable();
        knotsWithNothing();
        otherOutputs();
        siftsOfFifteen();
        siftsTooLong();
        siftsOfTable();
        siftsToNothing();
        siftsMeetKnots();
        check.end();
    }

    private static void prices() {
        about("12: START and STEP: true");
        AskingPupil x = with(ODD);
        int[][] taken = {{0, 0}, {99, 99}, {0, 99}, {99, 0}, {1, 1}, {98, 1}};
        for (int[] a : taken) {
            due("prices(" + a[0] + ", " + a[1] + ")", x.prices(a[0], a[1]), true);
            due("START", x.count(9), a[0]);
            due("STEP", x.count(10), a[1]);
            due("costs(0)", x.costs(0), 5 * a[0] + 6 * a[1]);
        }
    }

    private static void pricesRefused() {
        about("12: false: not 0 .. 99");
        AskingPupil x = with(ODD);
        x.prices(17, 23);
        int[][] refused = {{-1, 5}, {100, 5}, {5, -1}, {5, 100}, {-1, -1}, {100, 100}, {MIN, 5}, {5, MIN}, {MAX, 5}, {5, MAX}};
        for (int[] a : refused) {
            due("prices(" + a[0] + ", " + a[1] + ")", x.prices(a[0], a[1]), false);
            due("START", x.count(9), 17);
            due("STEP", x.count(10), 23);
        }
        x.asks(w("00"));
        due("COST of 2 letters", x.count(4), 17 + 46);
        due("costs(0)", x.costs(0), 5 * 17 + 6 * 23);
    }

    private static void methods() {
        about("13: METHOD m, and the PUPIL is NEW: METHOD as it was");
        AskingPupil x = new AskingPupil();
        int[] order = {3, 0, 2, 1, 1, 3, 3};
        int before = 0;
        for (int m : order) {
            due("method(" + m + ")", x.method(m), before);
            due("METHOD", x.count(0), m);
            before = m;
        }
    }

    private static void methodsRefused() {
        about("13: NONE: another m");
        for (int m = 0; m < 4; m++) {
            AskingPupil x = learnt(THREE, m);
            int asked = x.count(3);
            for (int other : new int[] {-1, 4, -2, 5, MIN, MAX}) due("method(" + other + ")", x.method(other), -1);
            due("METHOD", x.count(0), m);
            due("words asked", x.count(3), asked);
            due("the guess", x.count(6), 3);
            due("errs()", x.errs(), 0);
        }
    }

    private static void sameMethodIsNewToo() {
        about("13: METHOD m, and the PUPIL is NEW (the same METHOD, too)");
        for (int m = 0; m < 4; m++) {
            AskingPupil x = learnt(THREE, m);
            due("method(" + m + ")", x.method(m), m);
            due("words asked", x.count(3), m == 3 ? 1 : 0);
            due("LESSONS", x.count(5), 0);
            due("the guess", x.count(6), -1);
            due("heads", x.head(-1), 1);
            due("tails", x.tail(-1), 1);
            due("known(00)", x.known(w("00")), 0);
            due("learns()", x.learns(), 3);
        }
    }

    private static void asked() {
        about("14: A WORD is ASKED: its ANSWER");
        AskingPupil x = with("3:1,0,2;0:2,1,0;1:0,2,1");
        due("nothing", x.asks(1), 3);
        due("the first letter", x.asks(w("0")), 0);
        due("the last letter", x.asks(w("2")), 1);
        due("30 letters", x.asks(w(zeros(30))), 3);
        due("29 letters", x.asks(w(zeros(29))), 1);
        due("words asked", x.count(3), 5);
        due("COST", x.count(4), 5 + 1 + 1 + 30 + 29);
    }

    private static void askedNoWord() {
        about("14: A WORD is ASKED; of no WORD NONE, and nothing is ASKED");
        AskingPupil x = with(ODD, 3);
        for (long code : new long[] {0, -1, 2, 3, w("2"), w("02"), w(zeros(31)), Long.MIN_VALUE, Long.MAX_VALUE}) {
            due("asks(" + code + ")", x.asks(code), -1);
        }
        due("words asked", x.count(3), 1);
        due("COST", x.count(4), 1);
        due("30 letters", x.asks(w(zeros(30))), 0);
        due("COST", x.count(4), 1 + 31);
    }

    private static void known() {
        about("15: Whether a WORD was ASKED: 1, else 0");
        AskingPupil x = with("0:0,0,0");
        long[] words = {1, w("0"), w("2"), w("02"), w(zeros(30)), w("2".repeat(30))};
        for (long word : words) due("known(" + word + ")", x.known(word), 0);
        for (long word : words) {
            x.asks(word);
            due("known(" + word + ") behind it", x.known(word), 1);
        }
        due("a beginning", x.known(w(zeros(29))), 0);
        due("one more letter", x.known(w("020")), 0);
        due("no word", x.known(w("3")), -1);
        due("no code", x.known(0), -1);
        due("31 letters", x.known(w(zeros(31))), -1);
        x.method(0);
        for (long word : words) due("known(" + word + ") by a NEW pupil", x.known(word), 0);
    }

    private static void knownByWhatAsks() {
        about("15: Whether a WORD was ASKED: what is told in thought, or only looked at, was not");
        AskingPupil x = guessing(ROWS, 0);
        x.run(w("0101"));
        x.reads(w("0101"));
        x.errs();
        x.wrong(8);
        x.tests(2);
        x.passes(2);
        x.costs(3);
        x.cheapest();
        due("words asked", x.count(3), 3);
        due("known(0101)", x.known(w("0101")), 0);
        due("known(000), which errs", x.known(w("000")), 0);
        due("known(1)", x.known(w("1")), 1);
    }

    private static void stepNumbers() {
        about("16: A STEP: 0, 1, 2; the ROW: how many WORDS were not ASKED before it and are now, CODE of what came");
        AskingPupil x = with(THREE_HEADS);
        due("step()", x.step(), 1);
        dueRow("step() 1", x, 3, w("0"));
        due("count(7)", x.count(7), 2);
        AskingPupil y = guessing(THREE, 0);
        y.tells(w("00"));
        due("step()", y.step(), 2);
        dueRow("step() 2", y, 1, w("0"));
        due("step()", y.step(), 0);
        AskingPupil z = with(THREE_HEADS, 3);
        due("step() of a tree", z.step(), 1);
        dueRow("step() 1 of a tree", z, 1, w("0"));
        due("step() of a tree", z.step(), 1);
        dueRow("step() 1 of a tree", z, 1, w("1"));
    }

    private static void stepZeroTellsOneNumber() {
        about("16: CODE of the HEAD or TAIL that came (none by 0)");
        for (int m = 0; m < 4; m++) {
            AskingPupil x = with("1:0,0,0", m);
            due("step()", x.step(), 0);
            dueRow("step() 0", x, m == 3 ? 3 : 4);
            due("row(1) throws", rowThrows(x, 1), true);
        }
    }

    private static void stepCountsNewWordsAlone() {
        about("16: how many WORDS were not ASKED before it and are now");
        for (int m = 0; m < 4; m++) {
            AskingPupil x = with("1:0,0", m);
            x.asks(1);
            x.asks(w("0"));
            x.asks(w("000"));
            x.step();
            dueRow("step() behind some of its words", x, 1);
            AskingPupil y = with("1:0,0", m);
            y.asks(1);
            y.asks(w("0"));
            y.asks(w("1"));
            int cost = y.count(4);
            y.step();
            dueRow("step() behind all of its words", y, 0);
            due("COST then", y.count(4), cost);
        }
    }

    private static void stepWithGuess() {
        about("16: -2: there is a GUESS");
        for (int m = 0; m < 4; m++) {
            AskingPupil x = with(ROWS, m);
            due("step() without one", x.step(), 0);
            int asked = x.count(3);
            x.groups(7);
            due("step() with one", x.step(), -2);
            dueRow("groups(), that stays", x, 0, 1, 2, 3);
            due("words asked", x.count(3), asked);
            x.tells(w("000"));
            due("step() behind a lesson is one", x.step() >= 0, true);
            x.learns();
            due("step() behind learns()", x.step(), -2);
            x.method(m);
            due("step() behind method()", x.step(), 0);
            tell(x, ROWS);
            due("step() behind machine()", x.step(), 0);
        }
    }

    private static void guessCountsSteps() {
        about("17: STEPS till there is a GUESS: its STATES; the ROW: how many STEPS");
        for (int m = 0; m < 4; m++) {
            AskingPupil x = with("0:0,0", m);
            due("guess()", x.guess(), 1);
            dueRow("guess(), the one STEP that tells 0", x, 1);
            AskingPupil y = with("0:1,2;1:3,0;2:0,0;3:0,0", m);
            due("guess()", y.guess(), 4);
            dueRow("guess(), three HEADS and the STEP that tells 0", y, 4);
            y.method(m);
            y.step();
            y.step();
            due("guess() behind two STEPS", y.guess(), 4);
            dueRow("guess(), what was left", y, 2);
        }
    }

    private static void guessOfGuess() {
        about("17: STEPS till there is a GUESS (none, if there is)");
        for (int m = 0; m < 4; m++) {
            AskingPupil x = guessing(ROWS, m);
            int asked = x.count(3);
            due("guess() again", x.guess(), 1);
            dueRow("guess() again", x, 0);
            due("words asked", x.count(3), asked);
            x.learns();
            due("guess() of what is learnt", x.guess(), 4);
            dueRow("guess() of what is learnt", x, 0);
        }
    }

    private static void lessonsOfFourteen() {
        about("18: A LESSON of a WORD of at most 14 LETTERS");
        int[] came = {14, 14, 1, 2};
        for (int m = 0; m < 4; m++) {
            AskingPupil x = guessing(MOST, m);
            due("tells() of 14 letters", x.tells(w(zeros(14))), came[m]);
            due("LESSONS", x.count(5), 1);
            due("it is ASKED", x.known(w(zeros(14))), 1);
            due("the guess", x.count(6), -1);
            due("learns()", x.learns(), 8);
            due("errs()", x.errs(), 0);
            AskingPupil y = guessing(MOST, m);
            due("tells() of 14 letters, the first of them 2", y.tells(w("2".repeat(7) + zeros(7))), came[m]);
            due("learns()", y.learns(), 8);
        }
    }

    private static void lessonsTooLong() {
        about("18: NONE: a longer one, too");
        for (int m = 0; m < 4; m++) {
            AskingPupil x = guessing(MOST, m);
            int asked = x.count(3);
            for (int n : new int[] {15, 16, 30, 31}) due("tells() of " + n + " letters", x.tells(w(zeros(n))), -1);
            due("tells() of a letter that is none", x.tells(w("3")), -1);
            due("tells() of no code", x.tells(0), -1);
            due("LESSONS", x.count(5), 0);
            due("words asked", x.count(3), asked);
            due("the guess", x.count(6), 1);
            x.method(m);
            due("tells() of 15 letters without a guess", x.tells(w(zeros(15))), -1);
        }
    }

    private static void lessonsWithoutGuess() {
        about("18: -2: there is no GUESS");
        for (int m = 0; m < 4; m++) {
            AskingPupil x = with(ROWS, m);
            int asked = x.count(3);
            due("tells() at first", x.tells(w("000")), -2);
            due("tells() of 14 letters", x.tells(w(zeros(14))), -2);
            due("words asked", x.count(3), asked);
            due("LESSONS", x.count(5), 0);
            x.guess();
            due("tells() with one", x.tells(w("000")) > 0, true);
            due("tells() behind it", x.tells(w("1000")), -2);
            due("known(1000)", x.known(w("1000")), 0);
            due("LESSONS", x.count(5), 1);
        }
    }

    private static void lessonsOfWhatIsRight() {
        about("18: -3: GUESS answers it as the MACHINE does (it is not ASKED)");
        for (int m = 0; m < 4; m++) {
            AskingPupil x = guessing(ROWS, m);
            int asked = x.count(3);
            int cost = x.count(4);
            due("tells() of what is right", x.tells(w("0011")), -3);
            due("tells() of nothing", x.tells(1), -3);
            due("tells() of 14 letters that are right", x.tells(w("1".repeat(14))), -3);
            due("known(0011)", x.known(w("0011")), 0);
            due("words asked", x.count(3), asked);
            due("COST", x.count(4), cost);
            due("LESSONS", x.count(5), 0);
            due("the guess", x.count(6), 1);
            x.learns();
            due("tells() of what was wrong", x.tells(w("000")), -3);
            due("the guess", x.count(6), 4);
        }
    }

    private static void lessonsTellWhatCame() {
        about("18: how many HEADS and TAILS came");
        int[] came = {4, 4, 1, 2};
        for (int m = 0; m < 4; m++) {
            AskingPupil x = guessing(ROWS, m);
            due("tells(1000) by method " + m, x.tells(w("1000")), came[m]);
            due("heads and tails", x.head(-1) + x.tail(-1), 2 + came[m]);
        }
        AskingPupil x = guessing("0:1,2;1:0,3;0:2,2;2:3,3", 0);
        due("HEADS ahead of it: nothing, 0, 01", x.head(-1), 3);
        due("tells(0010): 0 is a HEAD, and does not come", x.tells(w("0010")), 3);
        AskingPupil y = guessing("1:0,3;0:0,2;1:2,1;0:1,3", 1);
        due("tells(100)", y.tells(w("100")), 3);
        y.guess();
        due("tells(10110): 0 is a TAIL, and does not come", y.tells(w("10110")), 4);
        long[] tails = {1, w("0"), w("00"), w("100"), w("10"), w("110"), w("0110"), w("10110"), -1};
        for (int k = 0; k < tails.length; k++) due("tail(" + k + ")", y.tail(k), tails[k]);
    }

    private static void learnsCounts() {
        about("19: LEARNT: STATES of GUESS; the ROW: how many STEPS, how many LESSONS now");
        int[] steps = {4, 5, 6, 4};
        int[] lessons = {1, 1, 2, 2};
        for (int m = 0; m < 4; m++) {
            AskingPupil x = with(ROWS, m);
            due("learns() by method " + m, x.learns(), 4);
            dueRow("learns() by method " + m, x, steps[m], lessons[m]);
            due("LESSONS", x.count(5), lessons[m]);
        }
    }

    private static void learnsAgain() {
        about("19: LEARNT; of what is learnt no STEP, and no LESSON more");
        int[] lessons = {1, 1, 2, 2};
        for (int m = 0; m < 4; m++) {
            AskingPupil x = learnt(ROWS, m);
            int asked = x.count(3);
            due("learns() again", x.learns(), 4);
            dueRow("learns() again", x, 0, lessons[m]);
            due("words asked", x.count(3), asked);
        }
    }

    private static void learnsOn() {
        about("19: how many LESSONS now: those told before it, too");
        for (int m = 0; m < 4; m++) {
            AskingPupil x = guessing(ROWS, m);
            x.tells(w("1000"));
            x.guess();
            int told = x.errs() != 0 && x.tells(x.errs()) > 0 ? 2 : 1;
            due("LESSONS", x.count(5), told);
            due("learns()", x.learns(), 4);
            due("LESSONS in the ROW", x.row(1), x.count(5));
            due("they are not fewer than those told", x.row(1) >= told, true);
            AskingPupil y = guessing(ROWS, m);
            due("learns() from a guess on", y.learns(), 4);
            due("its STEPS are those that were left", y.row(0), new int[] {3, 4, 5, 3}[m]);
        }
    }

    private static void heads() {
        about("20: CODE of HEAD k; k NONE: how many");
        AskingPupil x = with(THREE_HEADS);
        due("how many at first", x.head(-1), 1);
        due("head(0)", x.head(0), 1);
        due("head(1) at first", x.head(1), -1);
        x.learns();
        long[] heads = {3, 1, w("0"), w("1"), -1, -1};
        for (int k = -1; k < 5; k++) due("head(" + k + ")", x.head(k), heads[k + 1]);
        for (int k : new int[] {-2, MIN, MAX, 127, 128}) due("head(" + k + ")", x.head(k), -1);
        x.method(1);
        due("head(1) by a NEW pupil", x.head(1), -1);
    }

    private static void tails() {
        about("21: CODE of TAIL k; k NONE: how many");
        AskingPupil x = with(ROWS, 1);
        due("how many at first", x.tail(-1), 1);
        due("tail(0)", x.tail(0), 1);
        due("tail(1) at first", x.tail(1), -1);
        x.learns();
        long[] tails = {4, 1, w("0"), w("00"), w("000"), -1, -1};
        for (int k = -1; k < 6; k++) due("tail(" + k + ")", x.tail(k), tails[k + 1]);
        for (int k : new int[] {-2, MIN, MAX, 127, 128}) due("tail(" + k + ")", x.tail(k), -1);
        x.method(1);
        due("tail(1) by a NEW pupil", x.tail(1), -1);
    }

    private static void leavesAndKnots() {
        about("20, 21: (in a TREE of LEAF k), (in a TREE of KNOT k)");
        AskingPupil x = learnt(THREE, 3);
        due("leaves", x.head(-1), 3);
        due("knots", x.tail(-1), 2);
        long[] heads = {1, w("0"), w("00"), -1};
        for (int k = 0; k < 4; k++) due("head(" + k + ")", x.head(k), heads[k]);
        long[] tails = {1, w("0"), -1};
        for (int k = 0; k < 3; k++) due("tail(" + k + ")", x.tail(k), tails[k]);
        AskingPupil y = learnt(MOST, 3);
        due("the most leaves", y.head(-1), 8);
        due("the last leaf", y.head(7) > 0, true);
        due("one behind it", y.head(8), -1);
        due("a knot behind the last", y.tail((int) y.tail(-1)), -1);
    }

    private static void cells() {
        about("22: ANSWER of HEAD k, LETTER x (NONE: none) and TAIL e, one behind the other");
        AskingPupil x = learnt("0:1,2;1:3,0;2:0,0;3:0,0", 0);
        int[][] answers = {{0, 1, 2}, {1, 3, 0}, {2, 0, 0}, {3, 0, 0}};
        for (int k = 0; k < 4; k++) {
            for (int letter = -1; letter < 2; letter++) {
                due("cell(" + k + ", " + letter + ", 0)", x.cell(k, letter, 0), answers[k][letter + 1]);
            }
        }
        AskingPupil y = learnt("0:1,0;0:0,2;1:1,2", 0);
        due("heads", y.head(-1), 3);
        due("tail 1", y.tail(1), w("1"));
        // Behind HEAD 1, which is 0, and LETTER 1 and TAIL 1: the word 011.
        due("HEAD 1", y.head(1), w("0"));
        due("cell(1, 1, 1)", y.cell(1, 1, 1), 1);
        due("cell(1, 0, 1)", y.cell(1, 0, 1), 0);
        due("cell(0, 1, 1)", y.cell(0, 1, 1), 0);
    }

    private static void cellsOfNothing() {
        about("22: NONE: no such HEAD, LETTER, TAIL");
        AskingPupil x = learnt(THREE, 0);
        due("the last of each", x.cell(2, 0, 1), 0);
        int[][] none = {{3, 0, 1}, {-1, 0, 1}, {2, 1, 1}, {2, -2, 1}, {2, 0, 2}, {2, 0, -1}, {3, -1, 1}, {2, -1, 2},
            {MIN, 0, 0}, {MAX, 0, 0}, {0, MIN, 0}, {0, MAX, 0}, {0, 0, MIN}, {0, 0, MAX}};
        for (int[] a : none) due("cell(" + a[0] + ", " + a[1] + ", " + a[2] + ")", x.cell(a[0], a[1], a[2]), -1);
        AskingPupil y = learnt("0:0,0,0", 0);
        due("the last letter of 3", y.cell(0, 2, 0), 0);
        due("a letter behind it", y.cell(0, 3, 0), -1);
    }

    private static void cellsOfTree() {
        about("22: -2: METHOD is 3");
        AskingPupil x = learnt(THREE, 3);
        due("cell(0, NONE, 0)", x.cell(0, -1, 0), -2);
        due("cell() of the last leaf and knot", x.cell(2, 0, 1), -2);
        due("cell() behind the last leaf", x.cell(3, 0, 1), -1);
        due("cell() behind the last knot", x.cell(2, 0, 2), -1);
        due("cell() of a letter that is none", x.cell(2, 1, 1), -1);
        for (int m = 0; m < 3; m++) due("cell() by method " + m, learnt(THREE, m).cell(0, -1, 0), 0);
    }

    private static void cellsNotAsked() {
        about("22: -3: it was not ASKED");
        AskingPupil x = with(THREE);
        due("cell(0, NONE, 0) at first", x.cell(0, -1, 0), -3);
        due("cell(0, 0, 0) at first", x.cell(0, 0, 0), -3);
        x.asks(w("0"));
        due("cell(0, NONE, 0) behind asks(0)", x.cell(0, -1, 0), -3);
        due("cell(0, 0, 0) behind asks(0)", x.cell(0, 0, 0), 0);
        x.guess();
        x.tells(w("00"));
        due("the last HEAD, which the lesson asked", x.cell(2, -1, 0), 1);
        due("behind it a letter", x.cell(2, 0, 0), -3);
        due("it asks nothing itself", x.known(w("000")), 0);
        x.asks(w("000"));
        due("asked by the by", x.cell(2, 0, 0), 0);
    }

    private static void linesOfHeads() {
        about("23: How many HEADS have unlike LINES");
        AskingPupil x = guessing("0:0,0", 0);
        due("lines() of one", x.lines(), 1);
        AskingPupil y = guessing(ROWS, 0);
        y.tells(w("000"));
        y.step();
        y.step();
        due("lines() of a TABLE that lacks ASKED words", y.lines(), -3);
        y.step();
        due("lines() of 4 HEADS", y.lines(), 4);
        dueRow("lines()", y, 0, 0);
        due("lines() of 8", learnt(MOST, 1).lines(), 8);
    }

    private static void linesTellTwoNumbers() {
        about("23: the ROW: HEADS that have the LINE of one ahead, WORDS w x that are no HEADS with a LINE of none");
        AskingPupil x = with("0:1,2,3;1:0,0,0;2:0,0,0;3:0,0,0");
        for (int k = 0; k < 4; k++) x.asks(kth(k, 3));
        due("lines() at first", x.lines(), 1);
        dueRow("lines(), by each letter a LINE of none", x, 0, 3);
        AskingPupil y = guessing(ROWS, 0);
        y.tells(w("1000"));
        for (String word : new String[] {"10", "11", "100", "101", "1001", "10000", "10001"}) y.asks(w(word));
        due("lines() of 5 HEADS with 2 LINES", y.lines(), 2);
        dueRow("lines(), each HEAD behind the first of its LINE", y, 3, 0);
        AskingPupil z = guessing(ROWS, 0);
        z.tells(w("1000"));
        z.guess();
        due("lines() of 5 HEADS with 4 LINES", z.lines(), 4);
        dueRow("lines()", z, 1, 0);
        AskingPupil v = with("0:1,2;1:1,3;1:0,0;2:0,0");
        v.asks(1);
        v.asks(w("0"));
        v.asks(w("1"));
        due("lines()", v.lines(), 1);
        dueRow("lines(), two of the same LINE count twice", v, 0, 2);
        v.step();
        v.asks(w("00"));
        v.asks(w("01"));
        due("lines()", v.lines(), 2);
        dueRow("lines(), a HEAD and one of its LINE count no more", v, 0, 1);
    }

    private static void linesOfTree() {
        about("23: -2: METHOD is 3");
        AskingPupil x = with(THREE, 3);
        due("lines() at first", x.lines(), -2);
        x.learns();
        due("lines() of what is learnt", x.lines(), -2);
        for (int m = 0; m < 3; m++) due("lines() by method " + m, learnt(THREE, m).lines(), 3);
    }

    private static void linesNotAsked() {
        about("23: -3: not all w e, w x e were ASKED");
        // Of the words that the table has behind a lesson, each but one is asked.
        String[] missing = {"00", "01", "001", "0000", "0001"};
        for (int without = -1; without < missing.length; without++) {
            AskingPupil x = guessing(ROWS, 0);
            x.tells(w("000"));
            for (int i = 0; i < missing.length; i++) {
                due("lines() ahead of asking " + missing[i], x.lines(), -3);
                if (i != without) x.asks(w(missing[i]));
            }
            due(without < 0 ? "lines() of all" : "lines() without " + missing[without], x.lines(), without < 0 ? 2 : -3);
        }
        AskingPupil y = with(ROWS);
        for (String word : new String[] {"0", "1"}) y.asks(w(word));
        due("lines() without nothing", y.lines(), -3);
        y.asks(1);
        due("lines() with it", y.lines(), 1);
        AskingPupil z = with(ROWS, 1);
        z.guess();
        z.tells(w("000"));
        for (String word : new String[] {"00", "10", "100", "0000"}) z.asks(w(word));
        due("lines() without the longest tail behind the last letter", z.lines(), -3);
        z.asks(w("1000"));
        due("lines() with it", z.lines(), 1);
        dueRow("lines(), by the tails 0 leads to a LINE of none", z, 0, 1);
    }

    private static void knots() {
        about("24: What lies by an OUTPUT at KNOT k: 100 and the KNOT, or the LEAF");
        AskingPupil x = learnt(MOST, 3);
        boolean[] seen = new boolean[8];
        int leaves = 0;
        int below = 0;
        for (int k = 0; k < x.tail(-1); k++) {
            for (int output = 0; output < 4; output++) {
                int there = x.knot(k, output);
                if (there >= 100) {
                    below++;
                    due("a KNOT lies behind that above it", there - 100 < x.tail(-1) && there != 100, true);
                } else if (there >= 0) {
                    leaves++;
                    due("a LEAF lies at one place", seen[there], false);
                    seen[there] = true;
                }
            }
        }
        due("leaves", leaves, 8);
        due("KNOTS but the first", below, x.tail(-1) - 1);
        AskingPupil y = learnt("0:1,2;1:3,0;2:0,0;3:0,0", 3);
        for (int output = 0; output < 4; output++) due("knot(0, " + output + ")", y.knot(0, output), output);
    }

    private static void knotsOfTable() {
        about("24: -2: METHOD is not 3 (asked behind OUTPUT, ahead of the KNOT)");
        for (int m = 0; m < 3; m++) {
            AskingPupil x = learnt(THREE, m);
            due("knot(0, 0)", x.knot(0, 0), -2);
            due("knot(0, 3)", x.knot(0, 3), -2);
            for (int k : new int[] {-1, 7, 8, MIN, MAX}) due("knot(" + k + ", 0)", x.knot(k, 0), -2);
            due("knot(0, 4)", x.knot(0, 4), -1);
            due("knot(-1, -1)", x.knot(-1, -1), -1);
        }
        due("knot(0, 0) by method 3", with(THREE, 3).knot(0, 0), 0);
        due("knot(1, 0) by method 3", with(THREE, 3).knot(1, 0), -1);
    }

    private static void knotsWithNothing() {
        about("24: -3: nothing; NONE: no such KNOT");
        AskingPupil x = learnt(THREE, 3);
        int[][] there = {{101, 2, -3, -3}, {0, 1, -3, -3}, {-1, -1, -1, -1}};
        for (int k = 0; k < 3; k++) {
            for (int output = 0; output < 4; output++) due("knot(" + k + ", " + output + ")", x.knot(k, output), there[k][output]);
        }
        for (int k : new int[] {-1, -2, 3, 8, MIN, MAX}) due("knot(" + k + ", 0)", x.knot(k, 0), -1);
        x.method(3);
        due("knot(0, 1) of a NEW pupil", x.knot(0, 1), -3);
        due("knot(1, 0) of a NEW pupil", x.knot(1, 0), -1);
    }

    private static void otherOutputs() {
        about("24: NONE: another OUTPUT");
        AskingPupil x = with("3:0", 3);
        due("knot(0, 3)", x.knot(0, 3), 0);
        due("knot(0, 0)", x.knot(0, 0), -3);
        for (int output : new int[] {-1, 4, MIN, MAX}) due("knot(0, " + output + ")", x.knot(0, output), -1);
    }

    private static void siftsOfFifteen() {
        about("25: SIFT of a WORD of at most 15 LETTERS: the LEAF");
        AskingPupil x = learnt(MOST, 3);
        for (int n : new int[] {0, 1, 7, 14, 15}) {
            int leaf = x.sift(w(zeros(n)));
            due("sift() of " + n + " letters: the state's leaf", x.run(x.head(leaf)), Math.min(n, 7));
            due("it is asked", x.known(w(zeros(n))), 1);
        }
        due("15 letters 2", x.sift(w("2".repeat(15))), 0);
        due("they are asked", x.known(w("2".repeat(15))), 1);
    }

    private static void siftsTooLong() {
        about("25: NONE: a longer one, too");
        AskingPupil x = learnt(MOST, 3);
        int asked = x.count(3);
        for (int n : new int[] {16, 17, 30, 31}) due("sift() of " + n + " letters", x.sift(w(zeros(n))), -1);
        due("sift() of a letter that is none", x.sift(w("3")), -1);
        due("sift() of no code", x.sift(0), -1);
        due("words asked", x.count(3), asked);
        x.method(2);
        due("sift() of 16 letters by a table", x.sift(w(zeros(16))), -1);
    }

    private static void siftsOfTable() {
        about("25: -2: METHOD is not 3");
        for (int m = 0; m < 3; m++) {
            AskingPupil x = learnt(THREE, m);
            int asked = x.count(3);
            due("sift(0)", x.sift(w("0")), -2);
            due("sift() of 15 letters", x.sift(w(zeros(15))), -2);
            due("words asked", x.count(3), asked);
        }
    }

    private static void siftsToNothing() {
        about("25: -3: nothing (the WORDS are ASKED)");
        AskingPupil x = with(THREE, 3);
        x.groups(0);
        due("sift(00)", x.sift(w("00")), -3);
        due("it is asked", x.known(w("00")), 1);
        dueRow("groups(), that stays", x, 0, 0, 2);
        due("words asked", x.count(3), 2);
        due("COST", x.count(4), 1 + 3);
        due("no LEAF comes of it", x.head(-1), 1);
        due("sift() of 14 letters", x.sift(w(zeros(14))), -3);
        // At the second KNOT: 0, 1 and 2 answer 0, and behind them 0 shows 0, 1 and 2.
        AskingPupil y = guessing("0:1,0,0;0:2,0,0;0:3,0,0;1:4,0,0;2:0,0,0", 3);
        due("tells(000)", y.tells(w("000")), 2);
        due("tail(1)", y.tail(1), w("00"));
        int asked = y.count(3);
        due("sift(00) at the second KNOT", y.sift(w("00")), -3);
        due("it and the word behind it are asked", y.known(w("00")) + y.known(w("0000")), 2);
        due("words asked", y.count(3), asked + 1);
    }

    private static void siftsMeetKnots() {
        about("25: the ROW: how many KNOTS it met");
        AskingPupil x = with(ODD, 3);
        x.sift(1);
        dueRow("sift() at the first KNOT", x, 1);
        AskingPupil y = learnt(MOST, 3);
        for (int n = 0; n <= 7; n++) {
            int leaf = y.sift(w(zeros(n)));
            int at = 0;
            int met = 0;
            for (int there = 100; there >= 100 && met < 9; met++) {
                at = there - 100;
                there = y.knot(at, y.state(y.run(y.joins(w(zeros(n)), y.tail(at))), 0));
            }
            y.sift(w(zeros(n)));
            dueRow("sift() of " + n + " letters to leaf " + leaf, y, met);
        }
    }
}
