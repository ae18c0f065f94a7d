/** The boundary cases that promises 8 to 11 name, a test for each sentence. */
public final class WordsBoundaryTest extends Hand {
    private static final int MIN = Integer.MIN_VALUE;
    private static final int MAX = Integer.MAX_VALUE;

    private WordsBoundaryTest() {
    }

    public static void main(String[] args) {
        check = new Check("WordsBoundaryTest");
        joined();
        joinedTooLong();
        lettersOfWords();
        lengths();
        otherLetters();
        firstLetters();
        lettersBehind();
        notSoMany();
        numberedWords();
        numbersRefused();
        numberedTooLong();
        check.end();
    }

    private static void joined() {
        about("8: CODE of the WORD one, behind it other");
        AskingPupil x = with("0:0,0,0");
        due("0 and 21", x.joins(w("0"), w("21")), w("021"));
        due("nothing and 21", x.joins(1, w("21")), w("21"));
        due("21 and nothing", x.joins(w("21"), 1), w("21"));
        due("nothing twice", x.joins(1, 1), 1);
    }

    private static void joinedTooLong() {
        about("8: NONE: it would be too long, too");
        AskingPupil x = with("0:0,0,0");
        for (int n = 0; n <= 30; n++) {
            String one = "2".repeat(n);
            due(n + " and " + (30 - n) + " letters", x.joins(w(one), w("1".repeat(30 - n))), w(one + "1".repeat(30 - n)));
            due(n + " and " + (31 - n) + " letters", x.joins(w(one), w(zeros(31 - n))), -1);
        }
        due("30 and 30 letters", x.joins(w(zeros(30)), w(zeros(30))), -1);
        due("30 and 1 letters", x.joins(w(zeros(30)), w("2")), -1);
        due("31 letters and nothing", x.joins(w(zeros(31)), 1), -1);
        due("a letter that is none, ahead", x.joins(w("3"), 1), -1);
        due("a letter that is none, behind", x.joins(1, w("3")), -1);
        due("no code, ahead", x.joins(0, 1), -1);
        due("no code, behind", x.joins(1, 0), -1);
    }

    private static void lettersOfWords() {
        about("9: LETTER i of a WORD");
        AskingPupil x = with("0:0,0,0");
        long word = w("2" + zeros(28) + "1");
        due("the first of 30", x.letter(word, 0), 2);
        for (int i = 1; i < 29; i++) due("letter " + i, x.letter(word, i), 0);
        due("the last of 30", x.letter(word, 29), 1);
        due("the one of one", x.letter(w("2"), 0), 2);
    }

    private static void lengths() {
        about("9: i NONE: how many it has");
        AskingPupil x = with("0:0,0,0");
        for (int n = 0; n <= 30; n++) {
            due("of " + n + " letters 0", x.letter(w(zeros(n)), -1), n);
            due("of " + n + " letters 2", x.letter(w("2".repeat(n)), -1), n);
        }
        due("of 31 letters", x.letter(w(zeros(31)), -1), -1);
    }

    private static void otherLetters() {
        about("9: NONE: others");
        AskingPupil x = with("0:0,0,0");
        for (int n : new int[] {0, 1, 2, 29, 30}) {
            long word = w("1".repeat(n));
            for (int i : new int[] {n, n + 1, -2, -3, MIN, MAX}) due("letter " + i + " of " + n, x.letter(word, i), -1);
            if (n > 0) due("the last of " + n, x.letter(word, n - 1), 1);
        }
        due("letter 0 of no word", x.letter(w("3"), 0), -1);
        due("how many of no word", x.letter(0, -1), -1);
    }

    private static void firstLetters() {
        about("10: CODE of the first n LETTERS of a WORD (n 0 or more)");
        AskingPupil x = with("0:0,0,0");
        String word = "012".repeat(10);
        for (int n = 0; n <= 30; n++) due("the first " + n + " of 30", x.cut(w(word), n), w(word.substring(0, n)));
        due("the first 0 of nothing", x.cut(1, 0), 1);
        due("n 0 is of the first", x.cut(w("12"), 0), 1);
    }

    private static void lettersBehind() {
        about("10: or, n below 0, of those behind its first - n");
        AskingPupil x = with("0:0,0,0");
        String word = "012".repeat(10);
        for (int n = 1; n <= 30; n++) due("behind the first " + n + " of 30", x.cut(w(word), -n), w(word.substring(n)));
        due("behind all of one", x.cut(w("2"), -1), 1);
    }

    private static void notSoMany() {
        about("10: NONE: it has not so many");
        AskingPupil x = with("0:0,0,0");
        for (int n : new int[] {0, 1, 2, 29, 30}) {
            long word = w("1".repeat(n));
            due("all of " + n, x.cut(word, n), word);
            due("behind all of " + n, x.cut(word, -n), 1);
            for (int more : new int[] {n + 1, -n - 1, n + 2, -n - 2, MIN, MIN + 1, MAX}) due(more + " of " + n, x.cut(word, more), -1);
        }
        due("none of no word", x.cut(0, 0), -1);
        due("none of 31 letters", x.cut(w(zeros(31)), 0), -1);
    }

    private static void numberedWords() {
        about("11: The k-th WORD in ORDER (k from 0 on) of those of LETTERS that the MACHINE has: CODE");
        // The first and the last words of each length, with as many ahead of them as there are shorter ones.
        String[] texts = {"0:0,0", "0:0,0,0"};
        for (int l = 2; l <= 3; l++) {
            AskingPupil x = with(texts[l - 2]);
            String last = String.valueOf(l - 1);
            int shorter = 0;
            int many = 1;
            for (int n = 0; shorter + many <= 1000001; n++) {
                due("the first of " + n + " letters", x.word(shorter), w(zeros(n)));
                due("the last of " + n + " letters", x.word(shorter + many - 1), w(last.repeat(n)));
                if (n > 0) due("the second of " + n + " letters", x.word(shorter + 1), w(zeros(n - 1) + "1"));
                shorter += many;
                many *= l;
            }
        }
        AskingPupil x = with("0:0");
        for (int k = 0; k <= 30; k++) due("word(" + k + ") of one letter", x.word(k), w(zeros(k)));
    }

    private static void numbersRefused() {
        about("11: NONE: k is below 0, above 1000000");
        AskingPupil x = with("0:0,0,0");
        due("word(0)", x.word(0), 1);
        due("word(-1)", x.word(-1), -1);
        due("word(MIN)", x.word(MIN), -1);
        due("word(1000000)", x.word(1000000), w("0" + Integer.toString(1000000 - 797161, 3)));
        due("word(1000001)", x.word(1000001), -1);
        due("word(MAX)", x.word(MAX), -1);
        tell(x, "0:0,0");
        due("word(1000000) of two letters", x.word(1000000), w(Integer.toString(1000001, 2).substring(1)));
        due("word(1000001) of two letters", x.word(1000001), -1);
        due("word(-1) of two letters", x.word(-1), -1);
    }

    private static void numberedTooLong() {
        about("11: NONE: or the WORD would be too long");
        AskingPupil x = new AskingPupil();
        due("30 letters", x.word(30), w(zeros(30)));
        due("31 letters", x.word(31), -1);
        due("32 letters", x.word(32), -1);
        due("1000000 letters", x.word(1000000), -1);
    }
}
