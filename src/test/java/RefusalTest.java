import java.util.ArrayList;
import java.util.List;

/**
 * Refused calls change nothing, and calls that only look change nothing but the ROW: in every situation an object
 * that was called so answers all that follows as one that was not. Each look takes two objects of its own, so that
 * none is used for more than 512 calls.
 */
public final class RefusalTest extends Hand {
    private static final int MIN = Integer.MIN_VALUE;
    private static final int MAX = Integer.MAX_VALUE;

    private record Situation(String name, Making making) {
    }

    private interface Making {
        AskingPupil make();
    }

    private interface Look {
        String at(AskingPupil x);
    }

    private record Named(String name, long due, Call call) {
    }

    private static final List<Situation> SITUATIONS = new ArrayList<>();
    private static final Look[] LOOKS = {RefusalTest::whatStands, RefusalTest::knownWords, RefusalTest::table,
        RefusalTest::whatSteps, RefusalTest::whatIsLearnt, RefusalTest::theText, RefusalTest::fullText};

    private RefusalTest() {
    }

    public static void main(String[] args) {
        check = new Check("RefusalTest");
        gatherSituations();
        refusedEverywhere();
        refusedInTheirSituation();
        textsRefused();
        lookingChangesTheRowAlone();
        check.end();
    }

    private static void in(String name, Making making) {
        SITUATIONS.add(new Situation(name, making));
    }

    private static AskingPupil then(AskingPupil x, Call... calls) {
        for (Call call : calls) call.on(x);
        return x;
    }

    private static void gatherSituations() {
        in("a new object", AskingPupil::new);
        in("a text begun", () -> {
            AskingPupil x = with(ODD);
            write(x, "0:0");
            x.least();
            return x;
        });
        in("a text of 61 signs", () -> {
            AskingPupil x = with(THREE);
            write(x, MOST.substring(0, 61));
            return x;
        });
        in("a step", () -> then(with(ODD), x -> x.step()));
        in("words asked at a price", () -> then(with(ROWS), x -> x.prices(5, 7) ? 1 : 0, x -> x.asks(w("01")), x -> x.asks(1)));
        for (int m = 0; m < 4; m++) {
            int method = m;
            in("method " + m + ", new", () -> with(ROWS, method));
            in("method " + m + ", a guess", () -> guessing(ROWS, method));
            in("method " + m + ", a lesson", () -> then(guessing(ROWS, method), x -> x.tells(w("1000"))));
            in("method " + m + ", a lesson and a step", () -> then(guessing(ROWS, method), x -> x.tells(w("1000")), x -> x.step()));
            in("method " + m + ", learnt", () -> then(learnt(ROWS, method), x -> x.prices(0, 99) ? 1 : 0));
            in("method " + m + ", the most of all", () -> learnt(MOST, method));
        }
        in("a tree, sifted", () -> then(guessing(THREE, 3), x -> x.tells(w("00")), x -> x.sift(w("00")), x -> x.sift(w("000"))));
        in("drawn", () -> then(new AskingPupil(), x -> x.draws(-5, 8, 3, 3), x -> x.method(2), x -> x.guess()));
    }

    // looks

    private static String whatStands(AskingPupil x) {
        StringBuilder seen = new StringBuilder(rowOf(x)).append("| ");
        for (int what = 0; what <= 10; what++) seen.append(x.count(what)).append(' ');
        for (int s = 0; s < 8; s++) {
            for (int what = 0; what < 4; what++) seen.append(x.state(s, what)).append(' ').append(x.guessed(s, what)).append(' ');
            seen.append(x.access(s)).append(' ');
        }
        for (int k = 0; k < x.head(-1); k++) seen.append(x.head(k)).append(' ');
        for (int k = 0; k < x.tail(-1); k++) {
            seen.append(x.tail(k)).append(' ');
            for (int output = 0; output < 4; output++) seen.append(x.knot(k, output)).append(' ');
        }
        return seen.toString();
    }

    private static String knownWords(AskingPupil x) {
        int letters = x.count(1);
        StringBuilder seen = new StringBuilder();
        for (int k = 0; k < (letters == 1 ? 31 : 400); k++) seen.append(x.known(kth(k, letters)));
        return seen.append(' ').append(x.known(w(zeros(16)))).append(x.known(w(zeros(30)))).toString();
    }

    private static String table(AskingPupil x) {
        StringBuilder seen = new StringBuilder().append(x.lines()).append(": ").append(rowOf(x)).append("| ");
        long heads = Math.min(8, x.head(-1));
        long tails = Math.min(8, x.tail(-1));
        for (int k = 0; k < heads; k++) {
            for (int letter = -1; letter < x.count(1); letter++) {
                for (int e = 0; e < tails; e++) seen.append(x.cell(k, letter, e)).append(' ');
            }
        }
        return seen.toString();
    }

    private static String whatSteps(AskingPupil x) {
        StringBuilder seen = new StringBuilder();
        for (int i = 0; i < 9; i++) seen.append(x.step()).append(": ").append(rowOf(x)).append("| ");
        seen.append(x.errs()).append(' ').append(x.tells(x.errs())).append(' ');
        for (int what = 0; what <= 10; what++) seen.append(x.count(what)).append(' ');
        seen.append(x.guess()).append(": ").append(rowOf(x)).append("| ");
        seen.append(x.tests(2)).append(": ").append(rowOf(x)).append("| ");
        return seen.append(x.wrong(8)).append(' ').append(x.passes(2)).append(' ').append(x.count(4)).toString();
    }

    private static String whatIsLearnt(AskingPupil x) {
        StringBuilder seen = new StringBuilder();
        for (int m = 0; m < 4; m++) seen.append(x.costs(m)).append(": ").append(rowOf(x)).append("| ");
        seen.append(x.cheapest()).append(": ").append(rowOf(x)).append("| ");
        seen.append(x.learns()).append(": ").append(rowOf(x)).append("| ").append(whatStands(x));
        seen.append(x.sift(w(zeros(15)))).append(x.asks(w(zeros(29)))).append(' ').append(x.count(3)).append(' ').append(x.count(4));
        seen.append(' ').append(x.method(1)).append(x.learns()).append(": ").append(rowOf(x)).append(x.count(4));
        return seen.toString();
    }

    private static String theText(AskingPupil x) {
        return x.count(8) + " " + x.machine() + " " + whatStands(x);
    }

    /** The text goes on where it ended. */
    private static String fullText(AskingPupil x) {
        StringBuilder seen = new StringBuilder();
        for (int i = 0; i < 16; i++) seen.append(x.sign(i == 0 ? 0x3B323A30 : 0x3B303A30)).append(' ');
        return seen.append(x.machine()).append(' ').append(whatStands(x)).toString();
    }

    private static void dueUnchanged(String what, Situation s, Named named, Call ahead) {
        for (int i = 0; i < LOOKS.length; i++) {
            AskingPupil called = s.making().make();
            AskingPupil other = s.making().make();
            long answer = named.call().on(called);
            if (named.due() < 0) due(what + " in: " + s.name(), answer, named.due());
            ahead.on(called);
            ahead.on(other);
            check.due("look " + i + " behind " + what + " in: " + s.name(), LOOKS[i].at(called), LOOKS[i].at(other));
        }
    }

    // refused calls

    private static void none(List<Named> calls, String name, Call call) {
        calls.add(new Named(name, -1, call));
    }

    /** A boolean call told so that false is -1. */
    private static int orNone(boolean answer) {
        return answer ? 1 : -1;
    }

    private static List<Named> noneEverywhere() {
        List<Named> calls = new ArrayList<>();
        for (int n : new int[] {-1, 65, MIN, MAX}) none(calls, "end(" + n + ")", x -> orNone(x.end(n)));
        none(calls, "end() of a sign more", x -> orNone(x.end(x.count(8) + 1)));
        int[][] draws = {{0, 1, 1}, {9, 1, 1}, {MIN, 1, 1}, {MAX, 1, 1}, {2, 0, 1}, {2, 4, 1}, {2, MIN, 1}, {2, MAX, 1},
            {2, 1, 0}, {2, 1, 5}, {2, 1, MIN}, {2, 1, MAX}};
        for (int[] a : draws) none(calls, "draws(7, " + a[0] + ", " + a[1] + ", " + a[2] + ")", x -> x.draws(7, a[0], a[1], a[2]));
        int[][] states = {{-1, 0}, {8, 0}, {MIN, 1}, {MAX, 1}, {0, -1}, {0, 4}, {0, MIN}, {0, MAX}};
        for (int[] a : states) {
            none(calls, "state(" + a[0] + ", " + a[1] + ")", x -> x.state(a[0], a[1]));
            none(calls, "guessed(" + a[0] + ", " + a[1] + ")", x -> x.guessed(a[0], a[1]));
        }
        for (long code : new long[] {0, -1, 2, 3, 7, w("3"), w("03"), w(zeros(31)), Long.MIN_VALUE, Long.MAX_VALUE}) noWord(calls, code);
        none(calls, "joins() of 31 letters", x -> x.joins(w(zeros(15)), w(zeros(16))));
        for (int i : new int[] {-2, 2, MIN, MAX}) none(calls, "letter(00, " + i + ")", x -> x.letter(w("00"), i));
        for (int n : new int[] {-3, 3, MIN, MAX}) none(calls, "cut(00, " + n + ")", x -> x.cut(w("00"), n));
        for (int k : new int[] {-1, 1000001, MIN, MAX}) none(calls, "word(" + k + ")", x -> x.word(k));
        int[][] prices = {{-1, 3}, {100, 3}, {3, -1}, {3, 100}, {MIN, 3}, {3, MAX}};
        for (int[] a : prices) none(calls, "prices(" + a[0] + ", " + a[1] + ")", x -> orNone(x.prices(a[0], a[1])));
        for (int m : new int[] {-1, 4, MIN, MAX}) {
            none(calls, "method(" + m + ")", x -> x.method(m));
            none(calls, "costs(" + m + ")", x -> x.costs(m));
        }
        none(calls, "tells() of 15 letters", x -> x.tells(w(zeros(15))));
        none(calls, "sift() of 16 letters", x -> x.sift(w(zeros(16))));
        numbersOfNothing(calls);
        return calls;
    }

    private static void noWord(List<Named> calls, long code) {
        none(calls, "run(" + code + ")", x -> x.run(code));
        none(calls, "joins(" + code + ", 1)", x -> x.joins(code, 1));
        none(calls, "joins(1, " + code + ")", x -> x.joins(1, code));
        none(calls, "letter(" + code + ", -1)", x -> x.letter(code, -1));
        none(calls, "cut(" + code + ", 0)", x -> x.cut(code, 0));
        none(calls, "asks(" + code + ")", x -> x.asks(code));
        none(calls, "known(" + code + ")", x -> x.known(code));
        none(calls, "tells(" + code + ")", x -> x.tells(code));
        none(calls, "sift(" + code + ")", x -> x.sift(code));
        none(calls, "reads(" + code + ")", x -> x.reads(code));
    }

    private static void numbersOfNothing(List<Named> calls) {
        for (int k : new int[] {-2, MIN, MAX}) {
            none(calls, "head(" + k + ")", x -> x.head(k));
            none(calls, "tail(" + k + ")", x -> x.tail(k));
        }
        none(calls, "head() behind the last", x -> x.head((int) x.head(-1)));
        none(calls, "tail() behind the last", x -> x.tail((int) x.tail(-1)));
        int[][] cells = {{-1, 0, 0}, {MAX, 0, 0}, {0, -2, 0}, {0, 3, 0}, {0, MIN, 0}, {0, MAX, 0}, {0, 0, -1}, {0, 0, MAX}};
        for (int[] a : cells) none(calls, "cell(" + a[0] + ", " + a[1] + ", " + a[2] + ")", x -> x.cell(a[0], a[1], a[2]));
        for (int output : new int[] {-1, 4, MIN, MAX}) none(calls, "knot(0, " + output + ")", x -> x.knot(0, output));
        for (int s : new int[] {-1, 8, MIN, MAX}) {
            none(calls, "access(" + s + ")", x -> x.access(s));
            none(calls, "reach(" + s + ")", x -> x.reach(s));
            none(calls, "parted(" + s + ", 0)", x -> x.parted(s, 0));
            none(calls, "parted(0, " + s + ")", x -> x.parted(0, s));
            none(calls, "like(" + s + ", 0)", x -> x.like(s, 0));
            none(calls, "like(0, " + s + ")", x -> x.like(0, s));
        }
        for (int k : new int[] {-1, 9, MIN, MAX}) {
            none(calls, "wrong(" + k + ")", x -> x.wrong(k));
            none(calls, "tests(" + k + ")", x -> x.tests(k));
            none(calls, "passes(" + k + ")", x -> x.passes(k));
            none(calls, "groups(" + k + ")", x -> x.groups(k));
        }
        for (int what : new int[] {-1, 11, MIN, MAX}) none(calls, "count(" + what + ")", x -> x.count(what));
        for (int i : new int[] {-1, 9, MIN, MAX}) none(calls, "row(" + i + ")", x -> orNone(!rowThrows(x, i)));
    }

    private static void refusedEverywhere() {
        about("Refused calls answer NONE, or false, and change nothing");
        List<Named> calls = noneEverywhere();
        for (Situation s : SITUATIONS) {
            for (Named named : calls) dueUnchanged(named.name(), s, named, x -> 0);
        }
    }

    private static Situation situation(String name) {
        for (Situation s : SITUATIONS) {
            if (s.name().equals(name)) return s;
        }
        throw new IllegalArgumentException(name);
    }

    private static void dueHere(String situation, String name, long due, Call call) {
        dueUnchanged(name, situation(situation), new Named(name, due, call), x -> 0);
    }

    private static void refusedInTheirSituation() {
        about("what answers below 0 changes nothing");
        Call[] notAsked = {x -> x.cell(2, 0, 0), x -> x.cell(0, -1, 2), x -> x.cell(0, 1, 1)};
        dueHere("a text of 61 signs", "sign()", -1, x -> x.sign(0x303A3030));
        for (int m = 0; m < 4; m++) {
            String method = "method " + m + ", ";
            dueHere(method + "a guess", "step() with a guess", -2, x -> x.step());
            dueHere(method + "a guess", "tells() what is right", -3, x -> x.tells(w("11")));
            dueHere(method + "learnt", "tells() what is right", -3, x -> x.tells(w("10000")));
            dueHere(method + "a lesson", "tells() without a guess", -2, x -> x.tells(w("000")));
            dueHere(method + "a lesson", "guessed() without a guess", -2, x -> x.guessed(7, 2));
            dueHere(method + "a lesson", "access() without a guess", -2, x -> x.access(7));
            dueHere(method + "a lesson", "reads() without a guess", -2, x -> x.reads(1));
            dueHere(method + "a lesson", "errs() without a guess", -2, x -> x.errs());
            dueHere(method + "a lesson", "wrong() without a guess", -2, x -> x.wrong(8));
            dueHere(method + "a lesson", "tests() without a guess", -2, x -> x.tests(2));
            dueHere(method + "a lesson", "passes() without a guess", -2, x -> x.passes(2));
            dueHere(method + "a lesson", "parted() without a guess", -2, x -> x.parted(7, 7));
            if (m < 3) {
                dueHere(method + "a guess", "sift() of a table", -2, x -> x.sift(w("00")));
                dueHere(method + "a guess", "knot() of a table", -2, x -> x.knot(0, 0));
                dueHere(method + "a lesson", "lines(), not all asked", -3, x -> x.lines());
                dueHere(method + "a lesson", "cell(), not asked", -3, notAsked[m]);
            } else {
                dueHere(method + "a guess", "lines() of a tree", -2, x -> x.lines());
                dueHere(method + "a guess", "cell() of a tree", -2, x -> x.cell(0, 0, 0));
                dueHere(method + "a guess", "knot() where nothing lies", -3, x -> x.knot(0, 3));
            }
        }
    }

    /** A text that is refused is gone, as if end(0) had been called in its stead. */
    private static void textsRefused() {
        about("-100: a STATE that comes is not told (nothing changes); refused calls change nothing but THE TEXT");
        String[] texts = {"", "4:0", "0:0,0;0:0", "0:0;", "0:0;0:0;0:0;0:0;0:0;0:0;0:0;0:0;0:0", "3:1", "0:0,0;1:0,2", "2:0;1:7"};
        int[] answers = {-21, -21, -30, -25, -52, -100, -100, -100};
        for (Situation s : SITUATIONS) {
            for (int i = 0; i < texts.length; i++) {
                String text = texts[i];
                Situation emptied = new Situation(s.name(), () -> then(s.making().make(), x -> x.end(0) ? 1 : 0));
                dueUnchanged("machine() of '" + text + "'", emptied, new Named(text, answers[i], x -> tell(x, text)), x -> 0);
            }
        }
    }

    /** The ROW is told anew on both sides, all the rest must be alike. */
    private static void lookingChangesTheRowAlone() {
        about("Calls but those that tell the MACHINE, prices() to learns() (known() aside) and sift() change nothing but the ROW");
        Call[] looks = {x -> x.state(0, 0), x -> x.run(w("00")), x -> x.joins(w("0"), w("00")), x -> x.letter(w("0"), -1),
            x -> x.cut(w("00"), -1), x -> x.word(29), x -> x.known(w("0000")), x -> x.head(0), x -> x.tail(0), x -> x.cell(0, 0, 0),
            x -> x.lines(), x -> x.knot(0, 0), x -> x.guessed(0, 1), x -> x.access(0), x -> x.reads(w(zeros(30))), x -> x.errs(),
            x -> x.wrong(8), x -> x.tests(2), x -> x.passes(2), x -> x.parted(0, 0), x -> x.like(0, 0), x -> x.least(),
            x -> x.reach(0), x -> x.groups(7), x -> x.costs(0), x -> x.costs(1), x -> x.costs(2), x -> x.costs(3),
            x -> x.cheapest(), x -> x.count(4), x -> rowThrows(x, 0) ? 1 : 0};
        for (Situation s : SITUATIONS) {
            for (int i = 0; i < looks.length; i++) dueUnchanged("look call " + i, s, new Named("look", 0, looks[i]), x -> x.groups(0));
        }
        for (Situation s : SITUATIONS) dueUnchanged("all of them", s, new Named("all", 0, x -> then(x, looks).count(0)), x -> x.groups(0));
    }
}
