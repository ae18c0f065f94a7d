/** The boundary cases that promises 34 to 41 name, a test for each sentence. */
public final class InsideBoundaryTest extends Hand {
    private static final int MIN = Integer.MIN_VALUE;
    private static final int MAX = Integer.MAX_VALUE;
    private static final String EIGHT_IN_A_ROW = "0:1;0:2;0:3;0:4;0:5;0:6;0:7;1:7";

    private InsideBoundaryTest() {
    }

    public static void main(String[] args) {
        check = new Check("InsideBoundaryTest");
        like();
        likeByNothing();
        likeOthers();
        leastOfReached();
        leastTellsAllStates();
        reach();
        reachNone();
        reachOthers();
        groupsUpToSeven();
        groupsTellAllStates();
        groupsByOtherNumbers();
        costs();
        costsTellFiveNumbers();
        costsFromNewOn();
        costsInThought();
        costsByOtherMethods();
        cheapestOfSeveral();
        cheapestTellsFourNumbers();
        counts();
        countOfGuess();
        countOfRow();
        countOthers();
        rowsOfEachLength();
        rowsThrow();
        check.end();
    }

    private static void like() {
        about("34: CODE of the first WORD in ORDER by which two STATES of the MACHINE answer unlike (from each of them on)");
        AskingPupil x = with(EIGHT_IN_A_ROW);
        for (int p = 0; p < 8; p++) {
            for (int q = 0; q < 8; q++) due("like(" + p + ", " + q + ")", x.like(p, q), p == q ? 0 : w(zeros(7 - Math.max(p, q))));
        }
        tell(x, "0:2,3;0:3,2;0:2,2;1:3,3");
        due("of 0 and 1 the lesser", x.like(0, 1), w("0"));
        due("states that no word comes to", x.like(1, 3), 1);
    }

    private static void likeByNothing() {
        about("34: 0: none: they are like");
        AskingPupil x = with("1:1,1;1:2,0;1:0,1;0:3,3");
        for (int p = 0; p < 3; p++) {
            for (int q = 0; q < 3; q++) due("like(" + p + ", " + q + ")", x.like(p, q), 0);
            due("like(" + p + ", 3)", x.like(p, 3), 1);
        }
        due("like(3, 3)", x.like(3, 3), 0);
    }

    private static void likeOthers() {
        about("34: NONE: no such STATE");
        AskingPupil x = with(THREE);
        due("like(2, 2)", x.like(2, 2), 0);
        for (int s : new int[] {3, 7, 8, -1, MIN, MAX}) {
            due("like(0, " + s + ")", x.like(0, s), -1);
            due("like(" + s + ", 0)", x.like(s, 0), -1);
            due("like(" + s + ", " + s + ")", x.like(s, s), -1);
        }
    }

    private static void leastOfReached() {
        about("35: How many unlike ones there are of the STATES that are the END of some WORD");
        AskingPupil x = new AskingPupil();
        due("one state", x.least(), 1);
        tell(x, "0:0,0;1:1,1;2:2,2");
        due("one of three is reached", x.least(), 1);
        tell(x, MOST);
        due("eight of eight", x.least(), 8);
        tell(x, "0:1;0:2;0:3;0:4;0:5;0:6;0:7;0:0");
        due("eight alike", x.least(), 1);
        tell(x, "0:1;1:2;0:3;1:0;2:4");
        due("two and two alike, and one that is not reached", x.least(), 2);
        tell(x, "0:7;1:1;1:1;1:1;1:1;1:1;1:1;1:0");
        due("the last, and others like it that are not reached", x.least(), 2);
    }

    private static void leastTellsAllStates() {
        about("35: the ROW: by STATES the least STATE that each is like");
        AskingPupil x = new AskingPupil();
        x.least();
        dueRow("least() of one state", x, 0);
        tell(x, MOST);
        x.least();
        dueRow("least() of eight unlike", x, 0, 1, 2, 3, 4, 5, 6, 7);
        tell(x, "0:1;0:2;0:3;0:4;0:5;0:6;0:7;0:0");
        x.least();
        dueRow("least() of eight alike", x, 0, 0, 0, 0, 0, 0, 0, 0);
        tell(x, "0:1;1:2;0:3;1:0;2:4");
        x.least();
        dueRow("least(), one that is not reached", x, 0, 1, 0, 1, 4);
        tell(x, "0:7;1:1;1:1;1:1;1:1;1:1;1:1;1:0");
        x.least();
        dueRow("least(), the last is like none", x, 0, 1, 1, 1, 1, 1, 1, 7);
    }

    private static void reach() {
        about("36: CODE of the first WORD in ORDER of which a STATE is the END");
        AskingPupil x = with(EIGHT_IN_A_ROW);
        for (int s = 0; s < 8; s++) due("reach(" + s + ")", x.reach(s), w(zeros(s)));
        tell(x, "0:1,2,3;0:4,0,0;0:0,4,0;0:0,0,5;0:0,0,0;0:0,0,0");
        long[] words = {1, w("0"), w("1"), w("2"), w("00"), w("22")};
        for (int s = 0; s < words.length; s++) due("reach(" + s + ")", x.reach(s), words[s]);
    }

    private static void reachNone() {
        about("36: 0: none");
        AskingPupil x = with("0:1,1;0:0,1;0:0,1;0:2,3");
        long[] words = {1, w("0"), 0, 0, -1};
        for (int s = 0; s < words.length; s++) due("reach(" + s + ")", x.reach(s), words[s]);
    }

    private static void reachOthers() {
        about("36: NONE: no such STATE");
        AskingPupil x = with(MOST);
        due("reach(7)", x.reach(7), w(zeros(7)));
        for (int s : new int[] {8, -1, 9, MIN, MAX}) due("reach(" + s + ")", x.reach(s), -1);
        tell(x, "0:0");
        for (int s : new int[] {1, 7, -1}) due("reach(" + s + ") of one state", x.reach(s), -1);
    }

    private static void groupsUpToSeven() {
        about("37: How many groups of STATES WORDS of at most k (0 .. 7) LETTERS tell apart");
        AskingPupil x = with(EIGHT_IN_A_ROW);
        int[] groups = {2, 3, 4, 5, 6, 7, 8, 8};
        for (int k = 0; k <= 7; k++) due("groups(" + k + ")", x.groups(k), groups[k]);
        tell(x, "0:0;1:1;2:2;3:3;3:3");
        due("groups(0): the empty word alone", x.groups(0), 4);
        due("groups(7)", x.groups(7), 4);
        tell(x, "2:0");
        due("groups(0) of one state", x.groups(0), 1);
        due("groups(7) of one state", x.groups(7), 1);
    }

    private static void groupsTellAllStates() {
        about("37: the ROW: by STATES the least STATE of its group");
        AskingPupil x = with(EIGHT_IN_A_ROW);
        x.groups(0);
        dueRow("groups(0)", x, 0, 0, 0, 0, 0, 0, 0, 7);
        x.groups(1);
        dueRow("groups(1)", x, 0, 0, 0, 0, 0, 0, 6, 7);
        x.groups(5);
        dueRow("groups(5)", x, 0, 0, 2, 3, 4, 5, 6, 7);
        x.groups(6);
        dueRow("groups(6)", x, 0, 1, 2, 3, 4, 5, 6, 7);
        tell(x, "1:0;0:2;1:0;0:1");
        x.groups(0);
        dueRow("groups(0), with states that are not reached", x, 0, 1, 0, 1);
        x.groups(1);
        dueRow("groups(1): 1 and 3 lead to unlike ones", x, 0, 1, 0, 3);
    }

    private static void groupsByOtherNumbers() {
        about("37: NONE: another k");
        AskingPupil x = with(ROWS);
        x.groups(7);
        for (int k : new int[] {-1, 8, MIN, MAX}) {
            due("groups(" + k + ")", x.groups(k), -1);
            dueRow("groups(7), that stays", x, 0, 1, 2, 3);
        }
        due("groups(0)", x.groups(0), 2);
        due("groups(7)", x.groups(7), 4);
    }

    private static void costs() {
        about("38: What is learnt by METHOD m from NEW on (START and STEP as they are now): COST");
        AskingPupil x = with(THREE);
        int[] words = {5, 6, 5, 5};
        int[] letters = {10, 15, 10, 10};
        int[][] prices = {{1, 1}, {0, 0}, {99, 99}, {99, 0}, {0, 99}};
        for (int[] a : prices) {
            x.prices(a[0], a[1]);
            for (int m = 0; m < 4; m++) {
                due("costs(" + m + ") at " + a[0] + " and " + a[1], x.costs(m), a[0] * words[m] + a[1] * letters[m]);
            }
        }
        AskingPupil y = with("0:0", 3);
        y.prices(50, 1);
        for (int m = 0; m < 4; m++) due("costs(" + m + ") of one state", y.costs(m), 101);
    }

    private static void costsTellFiveNumbers() {
        about("38: the ROW: WORDS ASKED, LESSONS, STEPS, HEADS, TAILS then");
        AskingPupil x = with(THREE);
        long[][] rows = {{5, 1, 3, 3, 2}, {6, 1, 4, 3, 3}, {5, 1, 4, 3, 2}, {5, 1, 3, 3, 2}};
        for (int m = 0; m < 4; m++) {
            x.costs(m);
            dueRow("costs(" + m + ")", x, rows[m]);
        }
        tell(x, "0:0");
        for (int m = 0; m < 4; m++) {
            x.costs(m);
            dueRow("costs(" + m + ") of one state", x, 2, 0, 1, 1, 1);
        }
        for (int m = 0; m < 4; m++) {
            AskingPupil y = learnt(MOST, m);
            long steps = y.row(0);
            long[] row = {y.count(3), y.count(5), steps, y.head(-1), y.tail(-1)};
            due("costs(" + m + ")", y.costs(m), y.count(4));
            dueRow("costs(" + m + ")", y, row);
        }
    }

    private static void costsFromNewOn() {
        about("38: from NEW on: what the PUPIL knows by now is no help");
        for (int m = 0; m < 4; m++) {
            AskingPupil x = with(ROWS, m);
            int cost = x.costs(m);
            x.learns();
            due("costs(" + m + ") behind learns()", x.costs(m), cost);
            due("costs(" + m + ") again", x.costs(m), cost);
            for (int other = 0; other < 4; other++) {
                x.costs(other);
                due("costs(" + m + ") behind costs(" + other + ")", x.costs(m), cost);
            }
        }
    }

    private static void costsInThought() {
        about("38: in thought");
        AskingPupil x = guessing(ROWS, 0);
        for (int m = 0; m < 4; m++) x.costs(m);
        x.cheapest();
        int[] counts = {0, 2, 4, 3, 5, 0, 1};
        for (int what = 0; what < counts.length; what++) due("count(" + what + ")", x.count(what), counts[what]);
        due("errs()", x.errs(), w("000"));
        due("heads", x.head(-1), 1);
        due("known(000)", x.known(w("000")), 0);
    }

    private static void costsByOtherMethods() {
        about("38: NONE: another m");
        AskingPupil x = with(THREE);
        x.costs(3);
        for (int m : new int[] {-1, 4, MIN, MAX}) {
            due("costs(" + m + ")", x.costs(m), -1);
            dueRow("costs(3), that stays", x, 5, 1, 3, 3, 2);
        }
        due("costs(0)", x.costs(0), 15);
        due("costs(3)", x.costs(3), 15);
    }

    private static void cheapestOfSeveral() {
        about("39: The METHOD of which costs() is least (of several the least METHOD)");
        AskingPupil x = with(THREE);
        due("0, 2 and 3 cost the same", x.cheapest(), 0);
        x.prices(0, 0);
        due("all cost nothing", x.cheapest(), 0);
        boolean[] cheapest = new boolean[4];
        for (int seed = 0; seed < 400; seed++) {
            AskingPupil y = new AskingPupil();
            y.prices(1 + seed % 99, seed % 7);
            y.draws(seed, 3 + seed % 6, 1 + seed % 3, 2);
            int least = 0;
            for (int m = 1; m < 4; m++) {
                if (y.costs(m) < y.costs(least)) least = m;
            }
            due("cheapest(), seed " + seed, y.cheapest(), least);
            cheapest[least] = true;
        }
        due("METHOD 0 is cheapest of some", cheapest[0], true);
        due("METHOD 2 is cheapest of some", cheapest[2], true);
        due("METHOD 3 is cheapest of some", cheapest[3], true);
    }

    private static void cheapestTellsFourNumbers() {
        about("39: the ROW: by METHODS these COSTS");
        AskingPupil x = with(THREE);
        x.cheapest();
        dueRow("cheapest()", x, 15, 21, 15, 15);
        x.prices(0, 0);
        x.cheapest();
        dueRow("cheapest() at no price", x, 0, 0, 0, 0);
        x.prices(99, 99);
        x.cheapest();
        dueRow("cheapest() at the highest price", x, 99 * 15, 99 * 21, 99 * 15, 99 * 15);
        x.method(3);
        x.learns();
        x.cheapest();
        dueRow("cheapest() of what is learnt", x, 99 * 15, 99 * 21, 99 * 15, 99 * 15);
    }

    private static void counts() {
        about("40: What 0: METHOD, 1: l, 2: n, 3: WORDS ASKED, 4: COST, 5: LESSONS, 6: STATES .. 10: STEP");
        AskingPupil x = with(THREE, 2);
        x.prices(8, 9);
        x.learns();
        x.sign(0);
        int[] counts = {2, 1, 3, 5, 5 * 8 + 10 * 9, 1, 3, 2, 4, 8, 9};
        for (int what = 0; what < counts.length; what++) due("count(" + what + ")", x.count(what), counts[what]);
    }

    private static void countOfGuess() {
        about("40: 6: STATES of GUESS (NONE)");
        AskingPupil x = with(MOST, 1);
        due("at first", x.count(6), -1);
        x.guess();
        due("the least", x.count(6), 1);
        x.tells(w(zeros(7)));
        due("behind a lesson", x.count(6), -1);
        x.learns();
        due("the most", x.count(6), 8);
    }

    private static void countOfRow() {
        about("40: 7: numbers of the ROW, 8: signs of THE TEXT");
        AskingPupil x = with(MOST);
        due("none", x.count(7), 0);
        x.guess();
        due("of guess()", x.count(7), 1);
        x.learns();
        due("of learns()", x.count(7), 2);
        x.tests(0);
        due("of tests()", x.count(7), 3);
        x.cheapest();
        due("of cheapest()", x.count(7), 4);
        x.costs(0);
        due("of costs()", x.count(7), 5);
        x.groups(0);
        due("of groups()", x.count(7), 8);
        due("no signs", x.count(8), 0);
        write(x, MOST + "z");
        due("64 signs", x.count(8), 64);
    }

    private static void countOthers() {
        about("40: NONE for another what");
        AskingPupil x = learnt(THREE, 0);
        due("count(0)", x.count(0), 0);
        due("count(10)", x.count(10), 1);
        for (int what : new int[] {-1, 11, -2, 12, MIN, MAX}) due("count(" + what + ")", x.count(what), -1);
    }

    private static void rowsOfEachLength() {
        about("41: Number i of the ROW");
        AskingPupil x = with(EIGHT_IN_A_ROW);
        x.groups(7);
        for (int i = 0; i < 8; i++) due("row(" + i + ")", x.row(i), i);
        x.costs(0);
        for (int i = 0; i < 5; i++) due("row(" + i + ") is told", x.row(i) > 0, true);
        x.guess();
        due("row(0)", x.row(0), 1);
    }

    private static void dueRowEnds(AskingPupil x, int numbers) {
        due("numbers", x.count(7), numbers);
        if (numbers > 0) due("row() of the last throws", rowThrows(x, numbers - 1), false);
        for (int i : new int[] {numbers, numbers + 1, 8, 9, -1, -2, MIN, MAX}) {
            due("row(" + i + ") of " + numbers + " throws", rowThrows(x, i), true);
        }
        due("numbers behind it", x.count(7), numbers);
    }

    private static void rowsThrow() {
        about("41: NoSuchElementException: none such");
        AskingPupil x = with(MOST);
        dueRowEnds(x, 0);
        x.groups(0);
        dueRowEnds(x, 8);
        x.cheapest();
        dueRowEnds(x, 4);
        x.guess();
        dueRowEnds(x, 1);
        x.learns();
        dueRowEnds(x, 2);
        x.tests(0);
        dueRowEnds(x, 3);
        x.costs(1);
        dueRowEnds(x, 5);
        x.step();
        dueRowEnds(x, 5);
    }
}
