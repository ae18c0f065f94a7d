/** The boundary cases that Terms 1 to 3 of the document name, a test for each sentence. */
public final class TermsBoundaryTest extends Hand {
    private static final String EIGHT = "0:0;0:0;0:0;0:0;0:0;0:0;0:0;0:0";
    private static final String[] OF_WORDS = {"run", "joins, ahead", "joins, behind", "letter", "cut", "asks", "known", "reads"};

    private TermsBoundaryTest() {
    }

    public static void main(String[] args) {
        check = new Check("TermsBoundaryTest");
        oneToThreeLetters();
        oneToEightStates();
        outputsUpToThree();
        beginsInStateZero();
        atFirst();
        wordsOfUpToThirtyLetters();
        codes();
        lettersOfWords();
        order();
        askedOnceAtItsPrice();
        pricesAsTheyAreThen();
        methods();
        newPupil();
        newPupilByMethodThree();
        firstHeadAndLetterFirst();
        headAheadOfTail();
        tailByMethodZeroAlone();
        firstPairAndLetterFirst();
        firstTailFirst();
        statesAreFirstHeadsOfLines();
        treeAtFirst();
        siftTillLeafOrNothing();
        lessonTakesGuessAway();
        beginningsBecomeHeads();
        endsBecomeTails();
        searchOfTwoLetters();
        middleIsCut();
        leafGivesWayToKnot();
        newLeafIsBehindLow();
        learntWithoutLesson();
        learntByFirstWrongWord();
        testsWithoutParting();
        testsWhereSomeArePartedByNone();
        testsHaveLettersBehind();
        drawsWrapAround();
        drawsWithoutSign();
        noRowAtFirst();
        rowOfAnswersBelowZero();
        rowOfCallsThatTellNone();
        textIsEmptiedByItsReaderAlone();
        noneAheadOfTheOthers();
        othersAsTheyAreTold();
        nothingOfSuchNumber();
        check.end();
    }

    private static long byWord(AskingPupil x, int call, long word) {
        switch (call) {
            case 0: return x.run(word);
            case 1: return x.joins(word, 1);
            case 2: return x.joins(1, word);
            case 3: return x.letter(word, -1);
            case 4: return x.cut(word, 0);
            case 5: return x.asks(word);
            case 6: return x.known(word);
            default: return x.reads(word);
        }
    }

    private static void dueWord(AskingPupil x, String what, long word, boolean is) {
        for (int call = 0; call < OF_WORDS.length; call++) {
            due(OF_WORDS[call] + " takes " + what, byWord(x, call, word) >= 0, is);
        }
    }

    // Terms 1

    private static void oneToThreeLetters() {
        about("LETTERS 0 .. l - 1 (l 1 .. 3)");
        String more = "";
        for (int l = 1; l <= 3; l++) {
            more += l == 1 ? "0" : ",0";
            AskingPupil x = new AskingPupil();
            due("a text of " + l + " letters", tell(x, "0:" + more), 1);
            due("l", x.count(1), l);
        }
        AskingPupil x = with(ODD);
        due("a text of no letter", tell(x, "0:"), -23);
        due("a text of no letter, and a state more", tell(x, "0:;0:0"), -23);
        due("a text of 4 letters", tell(x, "0:0,0,0,0"), -28);
        due("l then", x.count(1), 2);
        due("draws of 1 letter", x.draws(1, 2, 1, 2), 1);
        due("draws of 3 letters", x.draws(1, 1, 3, 2), 1);
        due("draws of no letter", x.draws(1, 1, 0, 2), -1);
        due("draws of 4 letters", x.draws(1, 1, 4, 2), -1);
        due("l then", x.count(1), 3);
    }

    private static void oneToEightStates() {
        about("STATES 0 .. n - 1 (n 1 .. 8)");
        for (int n = 1; n <= 8; n++) {
            AskingPupil x = new AskingPupil();
            due("a text of " + n + " states", tell(x, EIGHT.substring(0, 4 * n - 1)), n);
            due("n", x.count(2), n);
            due("OUTPUT of the last state", x.state(n - 1, 0), 0);
            due("OUTPUT of one behind it", x.state(n, 0), -1);
        }
        AskingPupil x = with(ODD);
        due("a text of 9 states", tell(x, EIGHT + ";0:0"), -52);
        due("a text of none", tell(x, ""), -21);
        due("n then", x.count(2), 2);
        due("draws of 1 state", x.draws(1, 1, 1, 1), 1);
        due("draws of 8 states", x.draws(1, 8, 1, 1), 1);
        due("draws of 9 states", x.draws(1, 9, 1, 1), -1);
        due("draws of no state", x.draws(1, 0, 1, 1), -1);
        due("n then", x.count(2), 8);
    }

    private static void outputsUpToThree() {
        about("OUTPUT 0 .. 3");
        AskingPupil x = new AskingPupil();
        for (int output = 0; output <= 3; output++) {
            due("a text of OUTPUT " + output, tell(x, output + ":0"), 1);
            due("the empty word's answer", x.asks(1), output);
        }
        due("a text of OUTPUT 4", tell(x, "4:0"), -21);
        due("OUTPUT then", x.state(0, 0), 3);
    }

    private static void beginsInStateZero() {
        about("It begins in STATE 0");
        AskingPupil x = with("1:1;2:2;3:2");
        due("run of nothing", x.run(1), 0);
        due("asks nothing", x.asks(1), 1);
        due("run of one letter", x.run(w("0")), 1);
        due("reach(0)", x.reach(0), 1);
    }

    private static void atFirst() {
        about("At first l and n are 1, the OUTPUT is 0");
        AskingPupil x = new AskingPupil();
        due("l", x.count(1), 1);
        due("n", x.count(2), 1);
        due("OUTPUT", x.state(0, 0), 0);
        due("by letter 0", x.state(0, 1), 0);
        due("letter 1", x.state(0, 2), -1);
        due("state 1", x.state(1, 0), -1);
    }

    private static void wordsOfUpToThirtyLetters() {
        about("WORD: 0 .. 30 LETTERS");
        String[] last = {"0", "1", "2"};
        String[] texts = {"0:0", "0:0,0", "0:0,0,0"};
        for (int l = 1; l <= 3; l++) {
            AskingPupil x = learnt(texts[l - 1], 0);
            dueWord(x, "nothing", 1, true);
            dueWord(x, "30 letters 0", w(zeros(30)), true);
            dueWord(x, "30 of the last letter", w(last[l - 1].repeat(30)), true);
            dueWord(x, "31 letters 0", w(zeros(31)), false);
            dueWord(x, "31 of the last letter", w(last[l - 1].repeat(31)), false);
        }
    }

    private static void codes() {
        about("CODE: at first 1, then by each LETTER 4 times it, and the LETTER");
        AskingPupil x = learnt("0:0,0,0", 0);
        due("0 and 2", x.joins(w("0"), w("2")), 4 * (4 * 1 + 0) + 2);
        long[] none = {0, -1, -4, 2, 3, 8, 10, 12, 14, 32, Long.MIN_VALUE, Long.MIN_VALUE + 1, Long.MAX_VALUE,
            1L << 62, (1L << 62) + 5, 1L << 61, (1L << 61) - 1, -(1L << 60)};
        for (long code : none) dueWord(x, "the code " + code, code, false);
        dueWord(x, "the greatest code", w("2".repeat(30)), true);
        dueWord(x, "the least code of 30 letters", 1L << 60, true);
        dueWord(x, "one less", (1L << 60) - 1, false);
    }

    private static void lettersOfWords() {
        about("NONE: no such CODE (of at most 30 LETTERS that the MACHINE has)");
        String[] texts = {"0:0", "0:0,0", "0:0,0,0"};
        for (int l = 1; l <= 3; l++) {
            AskingPupil x = learnt(texts[l - 1], 0);
            String other = String.valueOf(l);
            dueWord(x, "the last letter", w(String.valueOf(l - 1)), true);
            dueWord(x, "a letter behind it", w(other), false);
            dueWord(x, "it as the first of 30", w(other + zeros(29)), false);
            dueWord(x, "it as the last of 30", w(zeros(29) + other), false);
            dueWord(x, "it in the middle", w("0" + other + "0"), false);
        }
    }

    private static void order() {
        about("ORDER of WORDS: the shorter first, of as long ones by LETTERS from the first on, the lesser ahead");
        AskingPupil x = with("0:0,0,0");
        String[] words = {"", "0", "1", "2", "00", "01", "02", "10", "11", "12", "20", "21", "22", "000"};
        for (int k = 0; k < words.length; k++) due("word(" + k + ")", x.word(k), w(words[k]));
        // By 00 they answer unlike, too.
        tell(x, "0:2,4;0:3,0;0:4,0;0:0,0;1:0,0");
        due("the shorter first", x.like(0, 1), w("1"));
        tell(x, "0:1,2;0:3,0;0:0,3;1:0,0");
        x.guess();
        due("of two letters the lesser first letter", x.errs(), w("00"));
        tell(x, "0:1,2;0:0,3;0:3,0;1:0,0");
        x.guess();
        due("the lesser first letter, though the last is greater", x.errs(), w("01"));
    }

    private static void askedOnceAtItsPrice() {
        about("One that was not ASKED before costs START, and STEP for each of its LETTERS, others nothing");
        AskingPupil x = with(ODD);
        x.prices(99, 98);
        x.asks(1);
        due("COST of nothing", x.count(4), 99);
        x.asks(1);
        due("COST of nothing again", x.count(4), 99);
        x.asks(w("1"));
        due("COST of one letter more", x.count(4), 99 + 99 + 98);
        x.asks(w(zeros(30)));
        due("COST of 30 letters more", x.count(4), 99 + 99 + 98 + 99 + 30 * 98);
        x.asks(w(zeros(30)));
        due("COST of them again", x.count(4), 99 + 99 + 98 + 99 + 30 * 98);
        due("words asked", x.count(3), 3);
        x.run(w("00"));
        due("run() asks nothing", x.known(w("00")), 0);
    }

    private static void pricesAsTheyAreThen() {
        about("START, and STEP (0 .. 99 each, at first 1; as they are then)");
        AskingPupil x = with(ODD);
        due("START at first", x.count(9), 1);
        due("STEP at first", x.count(10), 1);
        x.asks(w("000"));
        due("COST of 3 letters at first", x.count(4), 4);
        x.prices(0, 0);
        x.asks(w("001"));
        due("COST of 3 letters for nothing", x.count(4), 4);
        due("they are asked all the same", x.known(w("001")), 1);
        x.prices(99, 99);
        due("COST stays by other prices", x.count(4), 4);
        x.asks(w("001"));
        due("COST of what was asked for nothing", x.count(4), 4);
        x.asks(w("010"));
        due("COST of 3 letters more", x.count(4), 4 + 4 * 99);
    }

    private static void methods() {
        about("METHOD 0 .. 3, at first 0");
        AskingPupil x = new AskingPupil();
        due("METHOD at first", x.count(0), 0);
        for (int m = 0; m <= 3; m++) {
            due("method(" + m + ")", x.method(m), Math.max(0, m - 1));
            due("METHOD", x.count(0), m);
        }
        due("method(4)", x.method(4), -1);
        due("method(-1)", x.method(-1), -1);
        due("METHOD then", x.count(0), 3);
    }

    private static void dueNew(String what, AskingPupil x, int asked) {
        due("words asked, " + what, x.count(3), asked);
        due("LESSONS, " + what, x.count(5), 0);
        due("GUESS, " + what, x.count(6), -1);
        due("HEADS, " + what, x.head(-1), 1);
        due("HEAD 0, " + what, x.head(0), 1);
        due("TAILS, " + what, x.tail(-1), 1);
        due("TAIL 0, " + what, x.tail(0), 1);
        due("the empty word, " + what, x.known(1), asked);
        due("errs(), " + what, x.errs(), -2);
    }

    private static void newPupil() {
        about("The PUPIL is NEW: no WORD was ASKED, COST and LESSONS are 0, HEADS and TAILS: the empty WORD alone");
        dueNew("at first", new AskingPupil(), 0);
        for (int m = 0; m < 3; m++) {
            AskingPupil x = learnt(ROWS, m);
            x.method(m);
            dueNew("by method " + m, x, 0);
            due("COST", x.count(4), 0);
            x.learns();
            tell(x, ROWS);
            dueNew("behind machine(), by method " + m, x, 0);
            due("COST", x.count(4), 0);
            x.learns();
            x.draws(1, 8, 2, 4);
            dueNew("behind draws(), by method " + m, x, 0);
            due("COST", x.count(4), 0);
        }
    }

    private static void newPupilByMethodThree() {
        about("then by METHOD 3 the empty WORD is ASKED");
        AskingPupil x = with(ROWS);
        x.prices(97, 3);
        x.method(3);
        dueNew("by method 3", x, 1);
        due("COST", x.count(4), 97);
        x.learns();
        tell(x, ROWS);
        dueNew("behind machine()", x, 1);
        due("COST", x.count(4), 97);
        x.learns();
        x.draws(1, 8, 2, 4);
        dueNew("behind draws()", x, 1);
        due("COST", x.count(4), 97);
    }

    // Terms 2

    private static void firstHeadAndLetterFirst() {
        about("1: of the first HEAD w, of it the first LETTER x, so that the LINE of w x is that of no HEAD");
        for (int m = 0; m < 3; m++) {
            AskingPupil x = with("0:1,2;1:3,0;2:0,0;3:0,0", m);
            due("step(): 0 ahead of 1", x.step(), 1);
            dueRow("step()", x, 3, w("0"));
            due("step(): 1 of the first head ahead of 0 of the second", x.step(), 1);
            dueRow("step()", x, 2, w("1"));
            due("step()", x.step(), 1);
            dueRow("step()", x, 2, w("00"));
            due("step(): no LINE is new", x.step(), 0);
            dueRow("step()", x, 2);
        }
    }

    private static void headAheadOfTail() {
        about("Then the first of these that can be is done");
        AskingPupil x = guessing("0:1,0;0:2,0;0:3,0;1:4,0;2:4,0", 0);
        due("tells(000)", x.tells(w("000")), 3);
        // Nothing and 00 have one LINE, and 0 and 000 unlike ones, but 0000 has that of no HEAD.
        due("step(): a HEAD can come, and a TAIL", x.step(), 1);
        dueRow("step()", x, 5, w("0000"));
        due("step(): a TAIL can come", x.step(), 2);
        dueRow("step()", x, 2, w("0"));
    }

    private static void tailByMethodZeroAlone() {
        about("2 (METHOD 0 alone)");
        for (int m = 0; m < 4; m++) {
            int tailsCame = 0;
            AskingPupil x = with(MOST, m);
            for (int i = 0; i < 7; i++) {
                int done = x.step();
                while (done > 0) {
                    if (done == 2) tailsCame++;
                    done = x.step();
                }
                if (x.errs() != 0) x.tells(x.errs());
            }
            due("TAILS that came by STEPS of METHOD " + m + ", or none", tailsCame > 0, m == 0);
        }
    }

    private static void firstPairAndLetterFirst() {
        about("2: of the first HEAD w, then the first HEAD v behind it with the same LINE, then the first LETTER x");
        // By 1 the STATES 0, 1, 2 lead to 0, 0, 3; by 0 they lead to 1, 2, 0, which show 0 all.
        AskingPupil x = guessing("0:1,0;0:2,0;0:0,3;1:3,3", 0);
        due("errs()", x.errs(), w("001"));
        due("tells(001)", x.tells(w("001")), 3);
        due("step()", x.step(), 2);
        // New are 00, 01, 000, 0010, 0011. Nothing and 0 are parted by no LETTER yet, nothing and 00 by LETTER 1 alone.
        dueRow("step()", x, 5, w("1"));
        due("step()", x.step(), 2);
        // New are 11, 011, 0001, 00101, 00111. Then nothing and 0 are parted by LETTER 0 and TAIL 1.
        dueRow("step()", x, 5, w("01"));
        // By both LETTERS nothing and 1 are parted: the first is taken.
        AskingPupil y = guessing("0:1,1;0:2,2;0:3,3;1:3,3", 0);
        due("tells(111)", y.tells(w("111")), 3);
        due("step()", y.step(), 2);
        dueRow("step()", y, 5, w("0"));
    }

    private static void firstTailFirst() {
        about("2: then the first TAIL e, so that ANSWERS of w x e and v x e are unlike: x e becomes a TAIL");
        AskingPupil x = guessing(ROWS, 0);
        x.tells(w("000"));
        due("step()", x.step(), 2);
        due("of nothing: the letter alone", x.tail(1), w("0"));
        due("step()", x.step(), 2);
        due("of the tail 0, for nothing parts no more", x.tail(2), w("00"));
        AskingPupil y = guessing("0:2,1;2:3,2;2:0,3;2:1,0", 0);
        y.tells(w("10"));
        y.step();
        due("the tail ahead", y.tail(1), w("0"));
        due("step()", y.step(), 2);
        // 1 and 10 have one LINE; 11 and 101 are parted by nothing and by 0.
        due("of the first tail that parts", y.tail(2), w("1"));
    }

    private static void statesAreFirstHeadsOfLines() {
        about("GUESS: STATES are HEADS with a LINE that no HEAD ahead has (ACCESS), numbered in their order");
        AskingPupil x = guessing(ROWS, 0);
        x.tells(w("1000"));
        due("states of 5 HEADS", x.guess(), 4);
        due("HEADS", x.head(-1), 5);
        // 1 has the LINE of nothing.
        long[] access = {1, w("10"), w("100"), w("1000"), -1};
        for (int s = 0; s < access.length; s++) due("access(" + s + ")", x.access(s), access[s]);
    }

    private static void treeAtFirst() {
        about("At first there is KNOT 0 with the empty TAIL, and LEAF 0 with the empty HEAD, for its ANSWER");
        for (int output = 0; output < 4; output++) {
            AskingPupil x = with(output + ":0", 3);
            due("knots", x.tail(-1), 1);
            due("leaves", x.head(-1), 1);
            for (int o = 0; o < 4; o++) due("knot(0, " + o + ")", x.knot(0, o), o == output ? 0 : -3);
        }
    }

    private static void siftTillLeafOrNothing() {
        about("SIFT: from KNOT 0 on, w e is ASKED and what lies there is next, till it is a LEAF, or nothing");
        AskingPupil x = guessing(THREE, 3);
        x.tells(w("00"));
        int asked = x.count(3);
        due("sift(00): nothing at the first KNOT", x.sift(w("00")), -3);
        due("its second KNOT asks nothing", x.known(w("000")), 0);
        due("words asked", x.count(3), asked);
        due("sift(000): a LEAF at the second KNOT", x.sift(w("000")), 0);
        dueRow("sift(000)", x, 2);
        due("words asked", x.count(3), asked + 2);
    }

    private static void lessonTakesGuessAway() {
        about("LESSON: there is no GUESS from then on");
        for (int m = 0; m < 4; m++) {
            AskingPupil x = guessing(ROWS, m);
            due("states ahead of it", x.count(6), 1);
            x.tells(w("000"));
            due("states behind it", x.count(6), -1);
            due("access(0)", x.access(0), -2);
            due("LESSONS", x.count(5), 1);
            due("it is ASKED", x.known(w("000")), 1);
        }
    }

    private static void beginningsBecomeHeads() {
        about("METHOD 0: all beginnings of w (w, too), the shortest first, that are no HEADS become HEADS");
        AskingPupil x = guessing("0:1,0;0:2,0;0:3,0;1:4,0;2:4,0", 0);
        due("tells(000)", x.tells(w("000")), 3);
        x.guess();
        due("HEADS", x.head(-1), 5);
        long[] heads = {1, w("0"), w("00"), w("000"), w("0000")};
        for (int k = 0; k < 5; k++) due("head(" + k + ")", x.head(k), heads[k]);
        AskingPupil y = guessing(MOST, 0);
        due("tells(0000000)", y.tells(w(zeros(7))), 7);
        for (int k = 0; k <= 7; k++) due("head(" + k + ")", y.head(k), w(zeros(k)));
        due("head(8)", y.head(8), -1);
        due("tails", y.tail(-1), 1);
    }

    private static void endsBecomeTails() {
        about("METHOD 1: all ends of w (w, too), the shortest first, that are no TAILS become TAILS");
        AskingPupil x = guessing(ROWS, 1);
        due("tells(01000)", x.tells(w("01000")), 5);
        long[] tails = {1, w("0"), w("00"), w("000"), w("1000"), w("01000"), -1};
        for (int k = 0; k < tails.length; k++) due("tail(" + k + ")", x.tail(k), tails[k]);
        due("heads", x.head(-1), 1);
        AskingPupil y = guessing("0:1,2;0:0,3;0:3,0;1:0,0", 1);
        y.tells(w("01"));
        y.guess();
        long before = y.tail(-1);
        due("errs(), behind a first lesson", y.errs(), 0);
        due("tails of 01", before, 3);
    }

    private static void searchOfTwoLetters() {
        about("2, 3: low is 0, high how many LETTERS w has; as long as high is above low + 1");
        for (int m = 2; m <= 3; m++) {
            AskingPupil x = guessing(THREE, m);
            due("words asked", x.count(3), 2);
            due("tells(00)", x.tells(w("00")), m - 1);
            due("the one TAIL that can come of two letters", x.tail(1), w("0"));
            // 00, and u and 0, which was ASKED; by METHOD 3 nothing and 0, and 0 and 0, were ASKED too.
            due("words asked", x.count(3), 3);
        }
    }

    private static void middleIsCut() {
        about("mid is (low + high) by 2, cut; is the ANSWER of u and the rest of w that of w, low becomes mid, else high");
        for (int m = 2; m <= 3; m++) {
            AskingPupil x = guessing("0:1,0;0:2,0;0:3,0;0:4,0;1:4,0", m);
            due("tells(1110000)", x.tells(w("1110000")), m - 1);
            // mid 3, and 0000 answers 1; mid 5, and 00 answers 0; mid 4, and 000 answers 0.
            due("the TAIL", x.tail(1), w("000"));
            due("0000 is ASKED", x.known(w("0000")), 1);
            due("00 is ASKED", x.known(w("00")), 1);
            due("000 is ASKED", x.known(w("000")), 1);
            due("10000 is not: mid is not 2", x.known(w("10000")), 0);
            due("words asked", x.count(3), 3 + 4);
        }
    }

    private static void leafGivesWayToKnot() {
        about("3: LEAF a gives way to a KNOT: for the ANSWER of a's HEAD and e there is a, for that of v e a new LEAF");
        AskingPupil x = guessing(ROWS, 3);
        x.tells(w("1000"));
        due("the place of LEAF 0", x.knot(0, 0), 101);
        due("LEAF 0 by nothing and 00", x.knot(1, 0), 0);
        due("LEAF 1 by 0 and 00", x.knot(1, 1), 1);
        due("HEAD 1", x.head(1), w("0"));
        due("TAIL 1", x.tail(1), w("00"));
        x.guess();
        due("tells(00) by the second guess", x.errs(), w("000"));
    }

    private static void newLeafIsBehindLow() {
        about("3: v: ACCESS of the END in GUESS of w's first low LETTERS, and the next LETTER of w");
        // 010 alone comes to the state that shows 1, all others show 3.
        AskingPupil x = guessing("3:1,0;3:1,2;3:3,0;1:3,3", 3);
        due("errs()", x.errs(), w("010"));
        x.tells(w("010"));
        due("low 0: nothing and 0", x.head(1), w("0"));
        due("e, behind the first letter", x.tail(1), w("10"));
        due("the place of LEAF 0", x.knot(0, 3), 101);
        due("LEAF 0 by 10", x.knot(1, 3), 0);
        due("LEAF 1 by 010", x.knot(1, 1), 1);
        due("states", x.guess(), 2);
        due("errs()", x.errs(), w("010"));
        x.tells(w("010"));
        // By 01 GUESS comes to LEAF 0 again, but 0, which shows 3, is not answered as 010 is: high is 2, and low 1.
        due("low 1: the HEAD of LEAF 1, and 1", x.head(2), w("01"));
        due("e, behind two letters", x.tail(2), w("0"));
        due("the place of LEAF 0", x.knot(1, 3), 102);
        due("LEAF 0 by 0", x.knot(2, 3), 0);
        due("LEAF 2 by 010", x.knot(2, 1), 2);
        due("states", x.guess(), 4);
        due("errs()", x.errs(), 0);
    }

    private static void learntWithoutLesson() {
        about("LEARNT: as long as there is one, the first WORD by which GUESS and MACHINE answer unlike is a LESSON");
        for (int m = 0; m < 4; m++) {
            AskingPupil x = with("2:0,0", m);
            due("learns() of one state", x.learns(), 1);
            dueRow("learns() without a LESSON", x, 1, 0);
            AskingPupil y = with(ODD, m);
            due("learns() of two states", y.learns(), 2);
            dueRow("learns() without a LESSON", y, 2, 0);
        }
    }

    private static void learntByFirstWrongWord() {
        about("LEARNT: the first WORD in ORDER is a LESSON, and STEPS follow till there is a GUESS again");
        for (int i = 0; i < 8; i++) dueLearnt(i < 4 ? MOST : "0:1;0:2;0:3;1:0", i % 4);
        AskingPupil x = guessing("0:1;0:2;0:3;1:0", 2);
        due("errs()", x.errs(), w("000"));
        x.tells(w("000"));
        x.guess();
        due("errs(): the same word can be a LESSON again", x.errs(), w("000"));
        due("learns()", x.learns(), 4);
        due("LESSONS", x.count(5), 2);
    }

    private static void dueLearnt(String text, int m) {
        AskingPupil x = learnt(text, m);
        AskingPupil y = guessing(text, m);
        long steps = y.row(0);
        for (int i = 0; i < 8 && y.errs() != 0; i++) {
            y.tells(y.errs());
            y.guess();
            steps += y.row(0);
        }
        dueRow("learns() by method " + m, x, steps, y.count(5));
        due("words asked", x.count(3), y.count(3));
        due("COST", x.count(4), y.count(4));
    }

    // Terms 3

    private static void testsWithoutParting() {
        about("TESTS: e: the empty one, if there are none such");
        AskingPupil x = learnt("2:0,0,0", 0);
        due("tests(0) of one state: nothing, and each letter", x.tests(0), 4);
        dueRow("tests(0)", x, 3, 1, 4);
        AskingPupil y = learnt(THREE, 0);
        due("tests(0) of states told apart by nothing and 0", y.tests(0), 5);
        AskingPupil z = guessing(ROWS, 0);
        due("tests(2) of one state", z.tests(2), 15);
        due("the first that fails", z.passes(2), w("000"));
        for (int m = 2; m <= 3; m++) {
            AskingPupil v = guessing("0:1;0:2;0:3;1:0", m);
            v.tells(w("000"));
            due("states, both of which show 0 by all words", v.guess(), 2);
            due("tests(0) of two states alike: nothing, 0 and 00", v.tests(0), 3);
            dueRow("tests(0)", v, 3, 2, 3);
        }
    }

    private static void testsWhereSomeArePartedByNone() {
        about("TESTS: e: for any two of its STATES the first WORD by which these answer unlike, where there is one");
        AskingPupil x = guessing("0:1;1:3;1:0;1:2", 2);
        x.tells(w("0000"));
        due("states", x.guess(), 3);
        due("the last two are alike", x.parted(1, 2), 0);
        due("the others are not", x.parted(0, 1), 1);
        // p: nothing, 0, 00, 000; e: nothing.
        due("tests(0)", x.tests(0), 4);
        dueRow("tests(0)", x, 6, 3, 4);
        due("tests(2)", x.tests(2), 6);
    }

    private static void testsHaveLettersBehind() {
        about("TESTS of k: p: the first WORD of each STATE, and these with each LETTER behind; m: at most k LETTERS");
        AskingPupil x = guessing("0:1,1;0:2,2;1:3,3;2:3,3", 0);
        due("states", x.count(6), 1);
        due("tests(0)", x.tests(0), 3);
        due("passes(0): one letter tells nothing", x.passes(0), 0);
        due("passes(1): a letter behind it does", x.passes(1), w("00"));
        x.tells(w("00"));
        x.guess();
        due("errs()", x.errs(), 0);
        // p: nothing, 0, 1, 00, 01, 000, 001, 0000, 0001 ; e: nothing and 0.
        due("tests(0) of 4 states", x.tests(0), 9 + 5);
    }

    private static void dueDrawn(String what, int seed, int n, int l, int outputs, int[][] want) {
        AskingPupil x = new AskingPupil();
        due(what + " is not refused", x.draws(seed, n, l, outputs) > 0, true);
        for (int s = 0; s < n; s++) {
            for (int i = 0; i <= l; i++) due(what + ": state(" + s + ", " + i + ")", x.state(s, i), want[s][i]);
        }
    }

    private static void drawsWrapAround() {
        about("A DRAW of n: R = R times 1103515245 + 12345 (as ints)");
        dueDrawn("seed 1", 1, 8, 3, 4, new int[][] {{2, 6, 1, 3}, {3, 3, 2, 3}, {0, 6, 5, 7}, {0, 4, 1, 7}, {1, 7, 1, 6},
            {2, 2, 7, 7}, {3, 6, 7, 1}, {2, 0, 4, 1}});
        dueDrawn("the greatest seed", Integer.MAX_VALUE, 8, 3, 4, new int[][] {{1, 1, 6, 6}, {1, 2, 0, 7}, {0, 6, 5, 1},
            {3, 0, 5, 6}, {3, 2, 7, 5}, {1, 4, 2, 6}, {2, 3, 2, 0}, {3, 3, 1, 5}});
        dueDrawn("the least draw", -1, 1, 3, 1, new int[][] {{0, 0, 0, 0}});
    }

    private static void drawsWithoutSign() {
        about("A DRAW of n: (R without sign, by 65536) % n");
        dueDrawn("seed 0", 0, 3, 1, 3, new int[][] {{0, 2}, {0, 0}, {0, 0}});
        dueDrawn("seed -1", -1, 3, 1, 3, new int[][] {{1, 2}, {1, 2}, {1, 1}});
        dueDrawn("the greatest seed", Integer.MAX_VALUE, 3, 1, 3, new int[][] {{2, 1}, {0, 0}, {0, 2}});
        dueDrawn("the least seed", Integer.MIN_VALUE, 3, 1, 3, new int[][] {{2, 0}, {1, 1}, {2, 1}});
    }

    private static void noRowAtFirst() {
        about("ROW of numbers: told last by a call that says so; at first it has none");
        AskingPupil x = new AskingPupil();
        due("numbers", x.count(7), 0);
        due("row(0) throws", rowThrows(x, 0), true);
        x.least();
        dueRow("least()", x, 0);
        x.step();
        dueRow("step(), told later", x, 2);
        x.cheapest();
        dueRow("cheapest(), told later", x, 3, 3, 3, 3);
    }

    private static void dueRowStays(String what, AskingPupil x, Call call) {
        x.groups(0);
        String before = rowOf(x);
        due(what + " is below 0", call.on(x) < 0, true);
        check.due("the ROW behind " + what, rowOf(x), before);
    }

    private static void rowOfAnswersBelowZero() {
        about("The ROW stays with each answer below 0");
        AskingPupil x = with(ROWS);
        dueRowStays("lines() -3", x, y -> y.lines());
        dueRowStays("sift() -2", x, y -> y.sift(1));
        dueRowStays("sift() NONE", x, y -> y.sift(0));
        dueRowStays("reads() -2", x, y -> y.reads(1));
        dueRowStays("reads() NONE", x, y -> y.reads(0));
        dueRowStays("wrong() -2", x, y -> y.wrong(0));
        dueRowStays("wrong() NONE", x, y -> y.wrong(9));
        dueRowStays("tests() -2", x, y -> y.tests(0));
        dueRowStays("tests() NONE", x, y -> y.tests(3));
        dueRowStays("groups() NONE", x, y -> y.groups(8));
        dueRowStays("costs() NONE", x, y -> y.costs(4));
        x.guess();
        dueRowStays("step() -2", x, y -> y.step());
        x.method(3);
        dueRowStays("lines() -2", x, y -> y.lines());
        x.learns();
        dueRowStays("step() -2 of a tree", x, y -> y.step());
        AskingPupil z = with(THREE, 3);
        dueRowStays("sift() -3", z, y -> y.sift(w("00")));
        due("the word is asked", z.known(w("00")), 1);
    }

    private static void rowOfCallsThatTellNone() {
        about("The ROW stays with calls that do not tell of it");
        Call[] calls = {x -> x.sign(0x303A3000), x -> x.end(3) ? 1 : 0, x -> x.machine(), x -> x.draws(3, 3, 2, 2),
            x -> x.state(0, 0), x -> x.run(1), x -> x.joins(1, 1), x -> x.letter(1, -1), x -> x.cut(1, 0), x -> x.word(3),
            x -> x.prices(2, 2) ? 1 : 0, x -> x.asks(w("01")), x -> x.known(1), x -> x.head(0), x -> x.tail(0),
            x -> x.cell(0, -1, 0), x -> x.guessed(0, 0), x -> x.access(0), x -> x.errs(), x -> x.passes(2),
            x -> x.parted(0, 0), x -> x.like(0, 0), x -> x.reach(0), x -> x.count(7), x -> x.row(0), x -> x.method(3),
            x -> x.knot(0, 0), x -> x.machine(), x -> x.draws(5, 0, 0, 0)};
        AskingPupil x = learnt(ROWS, 0);
        x.groups(1);
        String before = rowOf(x);
        for (int i = 0; i < calls.length; i++) {
            calls[i].on(x);
            check.due("the ROW behind call " + i, rowOf(x), before);
        }
        AskingPupil y = guessing(ROWS, 0);
        dueRow("guess()", y, 1);
        due("tells()", y.tells(w("000")), 3);
        dueRow("guess(), behind tells()", y, 1);
    }

    private static void textIsEmptiedByItsReaderAlone() {
        about("change nothing but THE TEXT, which a call that can read it empties, whatever it answers");
        AskingPupil x = new AskingPupil();
        String[] texts = {"0:0", "", "0", "0:0;", "9", "0:7", "0:0,0,0,0"};
        int[] answers = {1, -21, -22, -25, -21, -100, -28};
        for (int i = 0; i < texts.length; i++) {
            write(x, texts[i]);
            due("machine() of '" + texts[i] + "'", x.machine(), answers[i]);
            due("signs behind it", x.count(8), 0);
        }
        write(x, "0:0,0");
        x.draws(1, 2, 2, 2);
        x.draws(1, 9, 2, 2);
        x.method(3);
        x.method(4);
        x.count(8);
        due("signs behind calls that do not read it", x.count(8), 5);
        due("machine()", x.machine(), 1);
    }

    private static void noneAheadOfTheOthers() {
        about("Of several answers below 0 that fit: -21 - p comes first, then NONE, then the others");
        AskingPupil x = with(ODD);
        due("a state that is not told ahead of a wrong sign", tell(x, "0:7;0:7x"), -28);
        due("a state that is not told, and the text ends too early", tell(x, "0:7;0:"), -27);
        due("tells(): no word, no guess", x.tells(w("2")), -1);
        due("tells(): too long, no guess", x.tells(w(zeros(15))), -1);
        due("sift(): no word, no tree", x.sift(0), -1);
        due("sift(): too long, no tree", x.sift(w(zeros(16))), -1);
        due("cell(): no head, not asked", x.cell(1, -1, 0), -1);
        due("cell(): no letter, not asked", x.cell(0, 2, 0), -1);
        due("cell(): no tail, not asked", x.cell(0, -1, 1), -1);
        due("guessed(): no state, no guess", x.guessed(8, 0), -1);
        due("guessed(): nothing such, no guess", x.guessed(0, 3), -1);
        due("access(): no state, no guess", x.access(-1), -1);
        due("reads(): no word, no guess", x.reads(w("2")), -1);
        due("wrong(): another k, no guess", x.wrong(9), -1);
        due("tests(): another k, no guess", x.tests(3), -1);
        due("passes(): another k, no guess", x.passes(3), -1);
        due("parted(): no state, no guess", x.parted(0, 8), -1);
        due("parted(): no state first, no guess", x.parted(8, 0), -1);
        due("knot(): another output, no tree", x.knot(0, 4), -1);
        x.method(3);
        due("cell(): no head, a tree", x.cell(1, -1, 0), -1);
        due("cell(): no letter, a tree", x.cell(0, 2, 0), -1);
        due("cell(): no tail, a tree", x.cell(0, -1, 1), -1);
        due("knot(): another output, and no knot", x.knot(1, 4), -1);
    }

    private static void othersAsTheyAreTold() {
        about("Of several answers below 0 that fit: .. then the others as they are told");
        AskingPupil x = with(ODD);
        due("tells(): no guess, and right anyhow", x.tells(1), -2);
        x.method(3);
        due("cell(): a tree, not asked", x.cell(0, 0, 0), -2);
        due("cell(): a tree, asked", x.cell(0, -1, 0), -2);
        due("lines(): a tree, not all asked", x.lines(), -2);
    }

    private static void nothingOfSuchNumber() {
        about("NONE: no such CODE, STATE, HEAD, TAIL, KNOT, too");
        AskingPupil x = learnt(THREE, 3);
        Call[] last = {y -> y.state(2, 0), y -> y.like(2, 2), y -> y.reach(2), y -> y.guessed(2, 0), y -> y.access(2),
            y -> y.parted(2, 2), y -> y.head(2), y -> y.tail(1), y -> y.knot(1, 0)};
        Call[] behind = {y -> y.state(3, 0), y -> y.like(3, 3), y -> y.reach(3), y -> y.guessed(3, 0), y -> y.access(3),
            y -> y.parted(3, 3), y -> y.head(3), y -> y.tail(2), y -> y.knot(2, 0)};
        Call[] ahead = {y -> y.state(-1, 0), y -> y.like(-1, -1), y -> y.reach(-1), y -> y.guessed(-1, 0), y -> y.access(-1),
            y -> y.parted(-1, -1), y -> y.head(-2), y -> y.tail(-2), y -> y.knot(-1, 0)};
        for (int i = 0; i < last.length; i++) {
            due("call " + i + " by the last number is answered", last[i].on(x) >= 0, true);
            due("call " + i + " by the number behind it", behind[i].on(x), -1);
            due("call " + i + " by a number below 0", ahead[i].on(x), -1);
        }
    }
}
