import java.util.NoSuchElementException;

/** What the tests by hand have in common. Each of them runs by itself, so that one Check is enough. */
abstract class Hand {
    /** Letter 0 changes the state, letter 1 does not: the output tells whether the 0s are odd. */
    static final String ODD = "0:1,0;1:0,1";
    /** The output is 1 behind 2, 5, 8 ... letters. */
    static final String THREE = "0:1;0:2;1:0";
    /** The output is 1 behind three 0s in a row alone; a 1 leads back. */
    static final String ROWS = "0:1,0;0:2,0;0:3,0;1:3,0";
    /** As many states and letters as there can be: the output is 1 behind seven 0s in a row alone. */
    static final String MOST = "0:1,0,0;0:2,0,0;0:3,0,0;0:4,0,0;0:5,0,0;0:6,0,0;0:7,0,0;1:7,0,0";

    static Check check = new Check("no test");

    /** A call, told as a number: true counts 1, false 0. */
    interface Call {
        long on(AskingPupil x);
    }

    static void about(String sentence) {
        check.about(sentence);
    }

    static void due(String what, long got, long want) {
        check.due(what, got, want);
    }

    static void due(String what, boolean got, boolean want) {
        check.due(what, String.valueOf(got), String.valueOf(want));
    }

    static void dueRow(String what, AskingPupil x, long... want) {
        StringBuilder due = new StringBuilder();
        for (long number : want) due.append(number).append(' ');
        check.due("the ROW of " + what, rowOf(x), due.toString());
    }

    static String rowOf(AskingPupil x) {
        StringBuilder got = new StringBuilder();
        for (int i = 0; i < x.count(7); i++) got.append(x.row(i)).append(' ');
        return got.toString();
    }

    static boolean rowThrows(AskingPupil x, int i) {
        try {
            x.row(i);
            return false;
        } catch (NoSuchElementException e) {
            return true;
        }
    }

    /** Puts signs behind the text. */
    static void write(AskingPupil x, String signs) {
        int before = x.count(8);
        for (int i = 0; i < signs.length(); i += 4) x.sign(four(signs, i));
        x.end(before + signs.length());
    }

    /** Four signs from the i-th on, as sign() takes them; what is missing is filled up. */
    static int four(String signs, int i) {
        int four = 0;
        for (int j = i; j < i + 4; j++) four = four << 8 | (j < signs.length() ? signs.charAt(j) : 'z');
        return four;
    }

    /** The second program, told the same machine. */
    static SlowPupil slow(String text, int method) {
        SlowPupil slow = new SlowPupil();
        for (int i = 0; i < text.length(); i += 4) slow.sign(four(text, i));
        slow.end(text.length());
        slow.machine();
        slow.method(method);
        return slow;
    }

    static int tell(AskingPupil x, String text) {
        x.end(0);
        write(x, text);
        return x.machine();
    }

    static AskingPupil with(String text) {
        AskingPupil x = new AskingPupil();
        tell(x, text);
        return x;
    }

    static AskingPupil with(String text, int method) {
        AskingPupil x = with(text);
        x.method(method);
        return x;
    }

    static AskingPupil guessing(String text, int method) {
        AskingPupil x = with(text, method);
        x.guess();
        return x;
    }

    static AskingPupil learnt(String text, int method) {
        AskingPupil x = with(text, method);
        x.learns();
        return x;
    }

    /** A word's code, told by its letters; one of 31 letters has a code too, but is no word. */
    static long w(String letters) {
        return Long.parseLong("1" + letters, 4);
    }

    static String zeros(int n) {
        return "0".repeat(n);
    }

    /** The k-th word of so many letters, counted without an object. */
    static long kth(int k, int letters) {
        int length = 0;
        int rest = k;
        for (int many = 1; rest >= many; many *= letters) {
            rest -= many;
            length++;
        }
        StringBuilder word = new StringBuilder();
        for (int i = 0; i < length; i++, rest /= letters) word.insert(0, rest % letters);
        return w(word.toString());
    }
}
