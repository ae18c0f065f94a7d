/** The document's promises one by one, by answers worked out by hand. */
public final class PromiseTest extends Hand {
    private PromiseTest() {
    }

    public static void main(String[] args) {
        check = new Check("PromiseTest");
        newObject();
        sign();
        end();
        machine();
        machineRefused();
        draws();
        state();
        run();
        joins();
        letter();
        cut();
        word();
        prices();
        method();
        asks();
        known();
        stepInTable();
        stepInTree();
        guess();
        tells();
        tellsByOtherMethods();
        learns();
        head();
        tail();
        cell();
        lines();
        knot();
        sift();
        guessed();
        access();
        reads();
        errs();
        wrong();
        tests();
        passes();
        parted();
        like();
        least();
        reach();
        groups();
        costs();
        cheapest();
        count();
        row();
        rowStays();
        ordersOfRefusal();
        machineMakesPupilNew();
        byDefinition();
        noPromiseLeftOut();
        check.end();
    }

    private static void noPromiseLeftOut() {
        for (int p = 1; p <= 41; p++) check.holds("promise " + p + " was checked", check.wasAbout("promise " + p));
    }

    private static void newObject() {
        check.about("promise 1");
        AskingPupil x = new AskingPupil();
        int[] counts = {0, 1, 1, 0, 0, 0, -1, 0, 0, 1, 1, -1};
        for (int what = 0; what < counts.length; what++) due("count(" + what + ")", x.count(what), counts[what]);
        due("state(0, 0)", x.state(0, 0), 0);
        due("state(0, 1)", x.state(0, 1), 0);
        due("head(-1)", x.head(-1), 1);
        due("head(0)", x.head(0), 1);
        due("tail(-1)", x.tail(-1), 1);
        due("tail(0)", x.tail(0), 1);
        due("known(1)", x.known(1), 0);
        due("errs()", x.errs(), -2);
        due("NONE", AskingPupil.NONE, -1);
    }

    private static void sign() {
        check.about("promise 2");
        AskingPupil x = new AskingPupil();
        due("first sign()", x.sign(0x303A3000), 4);
        due("second sign()", x.sign(-1), 8);
        x.end(3);
        due("machine(), the highest byte first", x.machine(), 1);
        for (int i = 1; i <= 16; i++) due("sign() " + i, x.sign(0x303A302C), 4 * i);
        due("a 65th sign", x.sign(0), -1);
        due("signs behind a refused sign()", x.count(8), 64);
        x.end(61);
        due("signs 62 to 65", x.sign(0), -1);
        due("signs behind it", x.count(8), 61);
        x.end(60);
        due("signs 61 to 64", x.sign(0), 64);
        AskingPupil y = new AskingPupil();
        y.sign(0xB03A3030);
        y.end(3);
        due("a sign above 127 is itself", y.machine(), -21);
    }

    private static void end() {
        check.about("promise 3");
        AskingPupil x = new AskingPupil();
        check.holds("end(0) of an empty text", x.end(0));
        check.holds("end(1) of an empty text is refused", !x.end(1));
        check.holds("end(-1) is refused", !x.end(-1));
        x.sign(0x303A3030);
        check.holds("end(5) of 4 is refused", !x.end(5));
        check.holds("end(MIN) is refused", !x.end(Integer.MIN_VALUE));
        due("signs then", x.count(8), 4);
        check.holds("end(4) of 4", x.end(4));
        check.holds("end(3) of 4", x.end(3));
        due("signs then", x.count(8), 3);
        check.holds("end(4) of 3 is refused", !x.end(4));
        due("machine() of what is left", x.machine(), 1);
    }

    private static void machine() {
        check.about("promise 4");
        AskingPupil x = new AskingPupil();
        due("machine()", tell(x, "3:1,0,1;2:1,1,0"), 2);
        due("l", x.count(1), 3);
        due("n", x.count(2), 2);
        due("signs then", x.count(8), 0);
        int[][] told = {{3, 1, 0, 1}, {2, 1, 1, 0}};
        for (int s = 0; s < 2; s++) {
            for (int what = 0; what < 4; what++) due("state(" + s + ", " + what + ")", x.state(s, what), told[s][what]);
        }
        due("8 states of 3 letters", tell(x, "0:1,1,1;1:2,2,2;2:3,3,3;3:4,4,4;0:5,5,5;1:6,6,6;2:7,7,7;3:0,0,7"), 8);
        due("state(7, 3)", x.state(7, 3), 7);
        due("one state", tell(x, "2:0"), 1);
        due("state(0, 0)", x.state(0, 0), 2);
    }

    private static void machineRefused() {
        check.about("promise 4, refused texts");
        AskingPupil x = with(ODD);
        String eight = "0:0;0:0;0:0;0:0;0:0;0:0;0:0;0:0";
        String[] texts = {"", "4", "0", "0;", "0:", "0:8", "0:0,", "0:0:", "0:0,0,0,", "0:0,0,0,0", "0:0;", "0:0;0:0,0",
            "0:0,0;0:0", "0:0,0;0:0;", "0:0,0;0:0,0,", "0:7;0:0,", "0:0 ", " 0:0", "0:0;4:0", "-", "0:00", eight + ";",
            eight + ";0:0", eight + ",", "00:0", "0:0;;"};
        int[] places = {0, 0, 1, 1, 2, 2, 4, 3, 7, 7, 4, 7,
            9, 9, 11, 7, 3, 0, 4, 0, 3, 31,
            31, 31, 1, 4};
        for (int i = 0; i < texts.length; i++) {
            due("'" + texts[i] + "'", tell(x, texts[i]), -21 - places[i]);
            due("signs behind it", x.count(8), 0);
        }
        due("a state that is not told", tell(x, "0:0;0:2"), -100);
        due("signs behind it", x.count(8), 0);
        due("a state that is not told, and a wrong sign", tell(x, "0:7;0:7x"), -28);
        due("a state told later", tell(with(ODD), "0:1;0:1"), 2);
        due("n, after all that was refused", x.count(2), 2);
        due("l", x.count(1), 2);
        due("state(1, 1)", x.state(1, 1), 0);
    }

    private static void draws() {
        check.about("promise 5");
        AskingPupil x = new AskingPupil();
        // R is 5, 1222621274, -1593238901 ...: by 65536, without sign, 18655 % 2 = 1, 41225 % 3 = 2.
        due("draws(5, 3, 2, 2)", x.draws(5, 3, 2, 2), 2);
        int[][] drawn = new int[3][3];
        int r = 5;
        for (int s = 0; s < 3; s++) {
            for (int what = 0; what < 3; what++) {
                r = r * 1103515245 + 12345;
                drawn[s][what] = (int) (((r & 0xFFFFFFFFL) >> 16) % (what == 0 ? 2 : 3));
                due("state(" + s + ", " + what + ")", x.state(s, what), drawn[s][what]);
            }
        }
        due("state(0, 0)", x.state(0, 0), 1);
        due("state(0, 1)", x.state(0, 1), 2);
        due("draws(-7, 8, 3, 4) has as many unlike states as least()", x.draws(-7, 8, 3, 4), x.least());
        due("n", x.count(2), 8);
        due("l", x.count(1), 3);
        due("draws(9, 1, 1, 1)", x.draws(9, 1, 1, 1), 1);
        int[][] refused = {{0, 1, 1}, {9, 1, 1}, {1, 0, 1}, {1, 4, 1}, {1, 1, 0}, {1, 1, 5}, {-1, 1, 1}, {1, -1, 1}, {1, 1, -1}};
        tell(x, ODD);
        x.asks(1);
        for (int[] a : refused) due("draws(1, " + a[0] + ", " + a[1] + ", " + a[2] + ")", x.draws(1, a[0], a[1], a[2]), -1);
        due("n behind refused draws", x.count(2), 2);
        due("words asked behind refused draws", x.count(3), 1);
    }

    private static void state() {
        check.about("promise 6");
        AskingPupil x = with(ODD);
        due("state(0, 0)", x.state(0, 0), 0);
        due("state(0, 1)", x.state(0, 1), 1);
        due("state(0, 2)", x.state(0, 2), 0);
        due("state(1, 0)", x.state(1, 0), 1);
        due("state(1, 1)", x.state(1, 1), 0);
        due("state(1, 2)", x.state(1, 2), 1);
        int[][] none = {{2, 0}, {-1, 0}, {0, 3}, {0, -1}, {8, 0}, {0, Integer.MIN_VALUE}, {Integer.MAX_VALUE, 1}};
        for (int[] a : none) due("state(" + a[0] + ", " + a[1] + ")", x.state(a[0], a[1]), -1);
    }

    private static void run() {
        check.about("promise 7");
        AskingPupil x = with(ROWS);
        due("run of nothing", x.run(1), 0);
        due("run of 0", x.run(w("0")), 1);
        due("run of 00", x.run(w("00")), 2);
        due("run of 000", x.run(w("000")), 3);
        due("run of 0001", x.run(w("0001")), 0);
        due("run of 00010", x.run(w("00010")), 1);
        due("run of 30 letters", x.run(w("0".repeat(30))), 3);
        long[] none = {0, -1, 2, 3, w("2"), w("02"), w("20"), w("0".repeat(31)), 8, Long.MIN_VALUE, Long.MAX_VALUE};
        for (long word : none) due("run(" + word + ")", x.run(word), -1);
    }

    private static void joins() {
        check.about("promise 8");
        AskingPupil x = with(ODD);
        due("01 and 10", x.joins(w("01"), w("10")), w("0110"));
        due("nothing and 10", x.joins(1, w("10")), w("10"));
        due("10 and nothing", x.joins(w("10"), 1), w("10"));
        due("nothing twice", x.joins(1, 1), 1);
        due("15 and 15 letters", x.joins(w("1".repeat(15)), w("0".repeat(15))), w("1".repeat(15) + "0".repeat(15)));
        due("15 and 16 letters", x.joins(w("1".repeat(15)), w("0".repeat(16))), -1);
        due("30 and nothing", x.joins(w("1".repeat(30)), 1), w("1".repeat(30)));
        due("a letter that is none", x.joins(w("2"), 1), -1);
        due("a letter that is none", x.joins(1, w("12")), -1);
        due("no code", x.joins(0, 1), -1);
        due("no code", x.joins(1, -4), -1);
    }

    private static void letter() {
        check.about("promise 9");
        AskingPupil x = with("0:0,0,0");
        due("letters of 201", x.letter(w("201"), -1), 3);
        due("letter 0", x.letter(w("201"), 0), 2);
        due("letter 1", x.letter(w("201"), 1), 0);
        due("letter 2", x.letter(w("201"), 2), 1);
        due("letter 3", x.letter(w("201"), 3), -1);
        due("letter -2", x.letter(w("201"), -2), -1);
        due("letters of nothing", x.letter(1, -1), 0);
        due("letter 0 of nothing", x.letter(1, 0), -1);
        due("letter 29 of 30", x.letter(w("0".repeat(29) + "2"), 29), 2);
        due("letters of no word", x.letter(w("3"), -1), -1);
        due("letters of 0", x.letter(0, -1), -1);
    }

    private static void cut() {
        check.about("promise 10");
        AskingPupil x = with("0:0,0,0");
        long word = w("0212");
        long[] first = {1, w("0"), w("02"), w("021"), word};
        for (int n = 0; n <= 4; n++) due("cut(0212, " + n + ")", x.cut(word, n), first[n]);
        long[] behind = {word, w("212"), w("12"), w("2"), 1};
        for (int n = 1; n <= 4; n++) due("cut(0212, " + -n + ")", x.cut(word, -n), behind[n]);
        due("cut(0212, 5)", x.cut(word, 5), -1);
        due("cut(0212, -5)", x.cut(word, -5), -1);
        due("cut(0212, MIN)", x.cut(word, Integer.MIN_VALUE), -1);
        due("cut(0212, MAX)", x.cut(word, Integer.MAX_VALUE), -1);
        due("cut(nothing, 0)", x.cut(1, 0), 1);
        due("cut of no word", x.cut(w("03"), 0), -1);
    }

    private static void word() {
        check.about("promise 11");
        AskingPupil x = with("0:0,0,0");
        String[] words = {"", "0", "1", "2", "00", "01", "02", "10", "11", "12", "20", "21", "22", "000", "001"};
        for (int k = 0; k < words.length; k++) due("word(" + k + ")", x.word(k), w(words[k]));
        // There are 797161 words of at most 12 letters, so this is number 202839 of 13 letters.
        due("word(1000000)", x.word(1000000), w("0" + Integer.toString(202839, 3)));
        due("word(1000001)", x.word(1000001), -1);
        due("word(-1)", x.word(-1), -1);
        tell(x, ODD);
        due("word(1000000) of two letters", x.word(1000000), w(Integer.toString(1000001, 2).substring(1)));
        tell(x, THREE);
        due("word(30) of one letter", x.word(30), w("0".repeat(30)));
        due("word(31) of one letter", x.word(31), -1);
        due("word(1000000) of one letter", x.word(1000000), -1);
    }

    private static void prices() {
        check.about("promise 12");
        AskingPupil x = with(ODD);
        x.asks(w("01"));
        due("cost of 2 letters at first", x.count(4), 3);
        check.holds("prices(0, 99)", x.prices(0, 99));
        due("START", x.count(9), 0);
        due("STEP", x.count(10), 99);
        due("cost stays", x.count(4), 3);
        x.asks(w("01"));
        due("cost of a word asked before", x.count(4), 3);
        x.asks(w("10"));
        due("cost of 2 letters", x.count(4), 3 + 198);
        check.holds("prices(99, 0)", x.prices(99, 0));
        x.asks(w("100"));
        due("cost of 3 letters", x.count(4), 3 + 198 + 99);
        check.holds("prices(100, 0) are refused", !x.prices(100, 0));
        check.holds("prices(0, 100) are refused", !x.prices(0, 100));
        check.holds("prices(-1, 0) are refused", !x.prices(-1, 0));
        check.holds("prices(0, -1) are refused", !x.prices(0, -1));
        due("START then", x.count(9), 99);
        due("STEP then", x.count(10), 0);
    }

    private static void method() {
        check.about("promise 13");
        AskingPupil x = with(THREE);
        x.prices(7, 2);
        x.learns();
        due("heads then", x.head(-1), 3);
        due("method(1)", x.method(1), 0);
        due("METHOD", x.count(0), 1);
        int[] fresh = {1, 1, 3, 0, 0, 0, -1, 2, 0, 7, 2};
        for (int what = 0; what < fresh.length; what++) due("count(" + what + ")", x.count(what), fresh[what]);
        due("heads", x.head(-1), 1);
        due("tails", x.tail(-1), 1);
        due("known(1)", x.known(1), 0);
        x.asks(1);
        due("method(4)", x.method(4), -1);
        due("method(-1)", x.method(-1), -1);
        due("words asked behind refused methods", x.count(3), 1);
        due("method(3)", x.method(3), 1);
        due("known(1) by method 3", x.known(1), 1);
        due("words asked", x.count(3), 1);
        due("cost", x.count(4), 7);
        due("knot(0, 0)", x.knot(0, 0), 0);
        x.asks(w("0"));
        due("method(3) again", x.method(3), 3);
        due("words asked", x.count(3), 1);
        due("method(2)", x.method(2), 3);
        due("words asked", x.count(3), 0);
        due("method(2) again", x.method(2), 2);
    }

    private static void asks() {
        check.about("promise 14");
        AskingPupil x = with("3:1,0;2:0,1");
        x.prices(5, 2);
        due("asks nothing", x.asks(1), 3);
        due("cost", x.count(4), 5);
        due("asks 0", x.asks(w("0")), 2);
        due("cost", x.count(4), 12);
        due("asks 011", x.asks(w("011")), 2);
        due("cost", x.count(4), 23);
        due("asks 011 again", x.asks(w("011")), 2);
        due("cost", x.count(4), 23);
        due("words asked", x.count(3), 3);
        due("asks 30 letters", x.asks(w("0".repeat(30))), 3);
        due("cost", x.count(4), 23 + 65);
        due("asks a letter that is none", x.asks(w("2")), -1);
        due("asks 31 letters", x.asks(w("0".repeat(31))), -1);
        due("asks 0", x.asks(0), -1);
        due("words asked", x.count(3), 4);
        due("cost", x.count(4), 88);
    }

    private static void known() {
        check.about("promise 15");
        AskingPupil x = with(ODD);
        due("known(nothing)", x.known(1), 0);
        x.asks(w("01"));
        due("known(01)", x.known(w("01")), 1);
        due("known(0)", x.known(w("0")), 0);
        due("known(1)", x.known(w("1")), 0);
        due("words asked", x.count(3), 1);
        due("known(2)", x.known(w("2")), -1);
        due("known(code 0)", x.known(0), -1);
        due("known(31 letters)", x.known(w("0".repeat(31))), -1);
        for (int k = 0; k < 200; k++) x.asks(kth(k, 2));
        for (int k = 0; k < 280; k++) due("known(word " + k + ")", x.known(kth(k, 2)), k < 200 ? 1 : 0);
        due("words asked", x.count(3), 200);
    }

    private static void stepInTable() {
        check.about("promise 16");
        AskingPupil x = with(ROWS);
        // All words of at most 2 letters answer 0.
        due("step()", x.step(), 0);
        dueRow("step()", x, 3);
        due("states", x.count(6), 1);
        due("step() with a guess", x.step(), -2);
        dueRow("step() with a guess", x, 3);
        due("tells(000)", x.tells(w("000")), 3);
        // 0, 00 and 000 are heads: 00, 01, 001, 0000 and 0001 are new; 000 has the line of no other.
        due("step()", x.step(), 2);
        // The first two of a line are nothing and 0, then nothing and 00: by letter 0 they come to 0 and 000.
        dueRow("step()", x, 5, w("0"));
        // New are 10, 010, 0010, 00000, 00010.
        due("step()", x.step(), 2);
        dueRow("step()", x, 5, w("00"));
        due("step()", x.step(), 0);
        due("states", x.count(6), 4);
        AskingPupil y = with("0:1,2;1:0,0;2:0,0");
        due("step(): the first letter first", y.step(), 1);
        dueRow("step()", y, 3, w("0"));
        due("step()", y.step(), 1);
        dueRow("step()", y, 2, w("1"));
        due("step()", y.step(), 0);
        dueRow("step()", y, 2);
    }

    private static void stepInTree() {
        check.about("promise 16, a tree");
        AskingPupil x = with("0:1,2;1:0,0;2:0,0", 3);
        due("step()", x.step(), 1);
        dueRow("step()", x, 1, w("0"));
        due("step()", x.step(), 1);
        dueRow("step()", x, 1, w("1"));
        due("step()", x.step(), 0);
        dueRow("step()", x, 4);
        due("step() with a guess", x.step(), -2);
        due("knot(0, 0)", x.knot(0, 0), 0);
        due("knot(0, 1)", x.knot(0, 1), 1);
        due("knot(0, 2)", x.knot(0, 2), 2);
        due("head(2)", x.head(2), w("1"));
        due("errs()", x.errs(), 0);
    }

    private static void guess() {
        check.about("promise 17");
        AskingPupil x = with(ODD);
        due("guess()", x.guess(), 2);
        dueRow("guess()", x, 2);
        due("guess() again", x.guess(), 2);
        dueRow("guess() again", x, 0);
        due("words asked", x.count(3), 5);
        x.method(3);
        x.step();
        due("guess() behind a step", x.guess(), 2);
        dueRow("it", x, 1);
    }

    private static void tells() {
        check.about("promise 18");
        AskingPupil x = with(THREE);
        due("tells() without a guess", x.tells(w("00")), -2);
        x.guess();
        due("tells what is right", x.tells(w("0")), -3);
        due("tells nothing", x.tells(1), -3);
        due("known then", x.known(w("000")), 0);
        due("tells what is right and not asked", x.tells(w("000")), -3);
        due("it is not asked", x.known(w("000")), 0);
        due("lessons", x.count(5), 0);
        due("tells 15 letters", x.tells(w("0".repeat(15))), -1);
        due("tells a letter that is none", x.tells(w("1")), -1);
        due("tells 14 letters", x.tells(w("0".repeat(14))), 14);
        due("lessons", x.count(5), 1);
        due("guess then", x.count(6), -1);
        for (int k = 0; k <= 14; k++) due("head(" + k + ")", x.head(k), w("0".repeat(k)));
        due("it is asked", x.known(w("0".repeat(14))), 1);
        due("tells() without a guess", x.tells(w("00")), -2);
        due("learns() then", x.learns(), 3);
        due("lessons", x.count(5), 1);
    }

    private static void tellsByOtherMethods() {
        check.about("promise 18, methods 1, 2, 3");
        AskingPupil x = with(ROWS, 1);
        x.guess();
        due("tells(1000)", x.tells(w("1000")), 4);
        String[] ends = {"", "0", "00", "000", "1000"};
        for (int k = 0; k < ends.length; k++) due("tail(" + k + ")", x.tail(k), w(ends[k]));
        due("heads", x.head(-1), 1);
        x.method(2);
        x.guess();
        // low, high: 0, 4: nothing and 00 (mid 2) answers 0, so high is 2; nothing and 000 (mid 1) answers 1: low is 1.
        due("tells(1000)", x.tells(w("1000")), 1);
        due("tail(1)", x.tail(1), w("00"));
        due("the words asked on the way", x.known(w("00")) + x.known(w("000")) + x.known(w("1000")), 3);
        due("words asked", x.count(3), 3 + 3);
        due("heads", x.head(-1), 1);
        // 100 alone is new.
        due("step()", x.step(), 1);
        dueRow("step()", x, 1, w("0"));
        x.method(3);
        x.guess();
        due("tells(1000)", x.tells(w("1000")), 2);
        due("tail(1)", x.tail(1), w("00"));
        due("head(1)", x.head(1), w("0"));
        due("knot(0, 0)", x.knot(0, 0), 101);
        due("knot(1, 0)", x.knot(1, 0), 0);
        due("knot(1, 1)", x.knot(1, 1), 1);
        due("lessons", x.count(5), 1);
        due("learns()", x.learns(), 4);
    }

    private static void learns() {
        check.about("promise 19");
        for (int m = 0; m < 4; m++) {
            AskingPupil x = with(ROWS, m);
            due("learns() by method " + m, x.learns(), 4);
            due("errs() then", x.errs(), 0);
            due("lessons in the ROW", x.row(1), x.count(5));
            due("steps", x.row(0), new int[] {4, 5, 6, 4}[m]);
            due("lessons", x.row(1), new int[] {1, 1, 2, 2}[m]);
            int asked = x.count(3);
            due("learns() again", x.learns(), 4);
            dueRow("learns() again", x, 0, new int[] {1, 1, 2, 2}[m]);
            due("words asked again", x.count(3), asked);
        }
        AskingPupil x = with(ROWS);
        x.guess();
        x.tells(w("10001"));
        x.tells(w("1000"));
        due("learns() goes on from where it is", x.learns(), 4);
        due("lessons in all", x.row(1), x.count(5));
    }

    private static void head() {
        check.about("promise 20");
        AskingPupil x = with(THREE);
        x.guess();
        x.tells(w("00"));
        x.guess();
        long[] heads = {3, 1, w("0"), w("00"), -1};
        for (int k = -1; k < 4; k++) due("head(" + k + ")", x.head(k), heads[k + 1]);
        due("head(-2)", x.head(-2), -1);
        due("head(MAX)", x.head(Integer.MAX_VALUE), -1);
        x.method(3);
        x.learns();
        due("leaves", x.head(-1), 3);
        due("head(1) of a tree", x.head(1), w("0"));
        due("head(2) of a tree", x.head(2), w("00"));
        due("head(3) of a tree", x.head(3), -1);
    }

    private static void tail() {
        check.about("promise 21");
        AskingPupil x = with(THREE);
        x.guess();
        x.tells(w("00"));
        x.guess();
        long[] tails = {2, 1, w("0"), -1};
        for (int k = -1; k < 3; k++) due("tail(" + k + ")", x.tail(k), tails[k + 1]);
        due("tail(-2)", x.tail(-2), -1);
        due("tail(MIN)", x.tail(Integer.MIN_VALUE), -1);
        x.method(3);
        x.learns();
        due("knots", x.tail(-1), 2);
        due("tail(0) of a tree", x.tail(0), 1);
        due("tail(1) of a tree", x.tail(1), w("0"));
        due("tail(2) of a tree", x.tail(2), -1);
    }

    private static void cell() {
        check.about("promise 22");
        AskingPupil x = with(THREE);
        due("not asked yet", x.cell(0, -1, 0), -3);
        x.asks(1);
        due("cell(0, NONE, 0)", x.cell(0, -1, 0), 0);
        due("not asked yet", x.cell(0, 0, 0), -3);
        x.guess();
        x.tells(w("00"));
        x.guess();
        int[][] answers = {{0, 0, 0}, {0, 1, 1}, {1, 0, 0}};
        for (int k = 0; k < 3; k++) {
            due("head " + k, x.cell(k, -1, 0), answers[k][0]);
            due("head " + k + ", tail 1", x.cell(k, -1, 1), answers[k][1]);
            due("head " + k + ", letter 0", x.cell(k, 0, 0), answers[k][2]);
        }
        due("head 0, letter 0, tail 1", x.cell(0, 0, 1), 1);
        due("head 2, letter 0, tail 1", x.cell(2, 0, 1), 0);
        int[][] none = {{3, 0, 0}, {-1, 0, 0}, {0, 1, 0}, {0, -2, 0}, {0, 0, 2}, {0, 0, -1}};
        for (int[] a : none) due("cell(" + a[0] + ", " + a[1] + ", " + a[2] + ")", x.cell(a[0], a[1], a[2]), -1);
        x.method(3);
        due("cell() by method 3", x.cell(0, -1, 0), -2);
        due("cell() of no head by method 3", x.cell(1, -1, 0), -1);
    }

    private static void lines() {
        check.about("promise 23");
        AskingPupil x = with(THREE);
        due("lines(), nothing asked", x.lines(), -3);
        x.asks(1);
        due("lines(), the head asked", x.lines(), -3);
        x.asks(w("0"));
        due("lines(), all asked by asks()", x.lines(), 1);
        dueRow("lines()", x, 0, 0);
        x.guess();
        x.tells(w("00"));
        due("lines() behind a lesson", x.lines(), -3);
        dueRow("lines() refused", x, 1);
        x.asks(w("000"));
        due("lines(), that asked too", x.lines(), 2);
        dueRow("lines()", x, 1, 0);
        x.step();
        due("lines() behind a new tail", x.lines(), -3);
        x.guess();
        due("lines() of a guess", x.lines(), 3);
        dueRow("lines()", x, 0, 0);
        AskingPupil y = with("0:1,2;1:0,0;2:0,0");
        y.asks(1);
        y.asks(w("0"));
        y.asks(w("1"));
        due("lines(), two of none", y.lines(), 1);
        dueRow("lines()", y, 0, 2);
        y.method(3);
        due("lines() by method 3", y.lines(), -2);
        dueRow("lines() refused", y, 0, 2);
    }

    private static void knot() {
        check.about("promise 24");
        AskingPupil x = with(THREE);
        due("knot() by method 0", x.knot(0, 0), -2);
        due("no knot by method 0", x.knot(7, 3), -2);
        due("no output by method 0", x.knot(0, 4), -1);
        due("no output by method 0", x.knot(0, -1), -1);
        x.method(3);
        due("knot(0, 0)", x.knot(0, 0), 0);
        due("knot(0, 1)", x.knot(0, 1), -3);
        due("knot(0, 3)", x.knot(0, 3), -3);
        due("knot(1, 0)", x.knot(1, 0), -1);
        due("knot(-1, 0)", x.knot(-1, 0), -1);
        due("knot(0, 4)", x.knot(0, 4), -1);
        due("knot(MAX, 0)", x.knot(Integer.MAX_VALUE, 0), -1);
        x.guess();
        x.tells(w("00"));
        due("knot(0, 0) behind a lesson", x.knot(0, 0), 101);
        due("knot(1, 0)", x.knot(1, 0), 0);
        due("knot(1, 1)", x.knot(1, 1), 1);
        due("knot(1, 2)", x.knot(1, 2), -3);
        due("knot(2, 0)", x.knot(2, 0), -1);
    }

    private static void sift() {
        check.about("promise 25");
        AskingPupil x = with(THREE);
        due("sift() by method 0", x.sift(w("0")), -2);
        due("sift() of no word by method 0", x.sift(w("1")), -1);
        x.method(3);
        due("sift(0)", x.sift(w("0")), 0);
        dueRow("sift(0)", x, 1);
        due("sift(00)", x.sift(w("00")), -3);
        dueRow("sift(00)", x, 1);
        due("00 is asked", x.known(w("00")), 1);
        due("no leaf came", x.head(-1), 1);
        x.guess();
        due("sift() of 15 letters", x.sift(w("0".repeat(15))), 0);
        due("it is asked", x.known(w("0".repeat(15))), 1);
        due("sift() of 16 letters", x.sift(w("0".repeat(16))), -1);
        due("the guess stays", x.count(6), 1);
        x.tells(w("00"));
        due("sift(0)", x.sift(w("0")), 1);
        dueRow("sift(0)", x, 2);
        due("sift(000)", x.sift(w("000")), 0);
        dueRow("sift(000)", x, 2);
        due("0000 is asked", x.known(w("0000")), 1);
    }

    private static void guessed() {
        check.about("promise 26");
        AskingPupil x = with("0:2,1;1:1,0;2:0,2");
        due("guessed() without a guess", x.guessed(0, 0), -2);
        due("guessed(7, 2) without a guess", x.guessed(7, 2), -2);
        due("guessed(8, 0) without a guess", x.guessed(8, 0), -1);
        due("guessed(-1, 0) without a guess", x.guessed(-1, 0), -1);
        due("guessed(0, 3) without a guess", x.guessed(0, 3), -1);
        due("guessed(0, -1) without a guess", x.guessed(0, -1), -1);
        x.learns();
        // The second state is that of letter 0, which the machine calls 2.
        int[][] states = {{0, 1, 2}, {2, 0, 1}, {1, 2, 0}};
        for (int s = 0; s < 3; s++) {
            for (int what = 0; what < 3; what++) due("guessed(" + s + ", " + what + ")", x.guessed(s, what), states[s][what]);
        }
        due("guessed(3, 0)", x.guessed(3, 0), -1);
        due("guessed(0, 3)", x.guessed(0, 3), -1);
        due("guessed(0, MIN)", x.guessed(0, Integer.MIN_VALUE), -1);
    }

    private static void access() {
        check.about("promise 27");
        AskingPupil x = with("0:2,1;1:1,0;2:0,2");
        due("access(0) without a guess", x.access(0), -2);
        due("access(7) without a guess", x.access(7), -2);
        due("access(8) without a guess", x.access(8), -1);
        due("access(-1) without a guess", x.access(-1), -1);
        x.learns();
        long[] words = {1, w("0"), w("1"), -1};
        for (int s = 0; s < 4; s++) due("access(" + s + ")", x.access(s), words[s]);
        AskingPupil y = with("0:1,0;0:1,1");
        y.guess();
        due("access(0)", y.access(0), 1);
        due("access(1)", y.access(1), -1);
        AskingPupil z = with(ROWS);
        z.guess();
        z.tells(w("11000"));
        z.guess();
        due("the heads are more than the states", z.head(-1), 6);
        long[] behind = {1, w("110"), w("1100"), w("11000")};
        for (int s = 0; s < 4; s++) due("access(" + s + ")", z.access(s), behind[s]);
    }

    private static void reads() {
        check.about("promise 28");
        AskingPupil x = with(THREE);
        due("reads() without a guess", x.reads(1), -2);
        due("reads() of no word without a guess", x.reads(w("1")), -1);
        x.guess();
        due("reads(00) by the first guess", x.reads(w("00")), 0);
        dueRow("reads(00)", x, 0);
        x.learns();
        due("reads(00)", x.reads(w("00")), 2);
        dueRow("reads(00)", x, 1);
        due("reads(0)", x.reads(w("0")), 1);
        dueRow("reads(0)", x, 0);
        due("reads of 30 letters", x.reads(w("0".repeat(30))), 0);
        due("reads of 31 letters", x.reads(w("0".repeat(31))), -1);
        dueRow("reads refused", x, 0);
        int asked = x.count(3);
        x.reads(w("0".repeat(20)));
        due("reads() asks nothing", x.count(3), asked);
    }

    private static void errs() {
        check.about("promise 29");
        AskingPupil x = with(ROWS);
        due("errs() without a guess", x.errs(), -2);
        x.guess();
        due("errs()", x.errs(), w("000"));
        due("errs() asks nothing", x.known(w("000")), 0);
        x.learns();
        due("errs() of what is learnt", x.errs(), 0);
        AskingPupil y = with("0:1,1;0:2,3;0:0,0;1:3,3");
        y.guess();
        due("errs(): the shorter first, then the lesser letter", y.errs(), w("01"));
    }

    private static void wrong() {
        check.about("promise 30");
        AskingPupil x = with(ROWS);
        due("wrong(0) without a guess", x.wrong(0), -2);
        due("wrong(9) without a guess", x.wrong(9), -1);
        due("wrong(-1)", x.wrong(-1), -1);
        x.guess();
        // The guess answers 0 always; 1 is the answer of words that end with 000.
        int[] unlike = {0, 0, 0, 1, 3, 7, 15, 31, 63};
        for (int k = 0; k <= 8; k++) {
            due("wrong(" + k + ")", x.wrong(k), unlike[k]);
            dueRow("wrong(" + k + ")", x, (2L << k) - 1);
        }
        due("wrong(9)", x.wrong(9), -1);
        x.learns();
        due("wrong(8) of what is learnt", x.wrong(8), 0);
        AskingPupil y = with("0:1,1,1;0:2,2,2;1:0,0,0");
        y.guess();
        due("wrong(8) of three letters", y.wrong(8), 9 + 243 + 6561);
        dueRow("wrong(8) of three letters", y, 9841);
    }

    private static void tests() {
        check.about("promise 31");
        AskingPupil x = with(ODD);
        due("tests(0) without a guess", x.tests(0), -2);
        due("tests(3) without a guess", x.tests(3), -1);
        x.learns();
        // p: nothing, 0, 1, 00, 01; e: nothing alone.
        due("tests(0)", x.tests(0), 5);
        dueRow("tests(0)", x, 6, 2, 5);
        // All words of at most 2 letters, and those of 3 that begin with 0.
        due("tests(1)", x.tests(1), 11);
        dueRow("tests(1)", x, 10 + 12, 3, 5);
        due("tests(2)", x.tests(2), 1 + 2 + 4 + 8 + 8);
        dueRow("tests(2)", x, 10 + 24 + 32, 4, 5);
        due("tests(3)", x.tests(3), -1);
        due("tests(-1)", x.tests(-1), -1);
        AskingPupil y = learnt(THREE, 0);
        // p: nothing to 000; e: nothing and 0.
        due("tests(0) of one letter", y.tests(0), 5);
        dueRow("tests(0) of one letter", y, 10, 4, 5);
        due("tests(2) of one letter", y.tests(2), 7);
        dueRow("tests(2) of one letter", y, 21, 6, 5);
        AskingPupil z = with("0:0,0");
        z.learns();
        due("tests(0) of one state", z.tests(0), 3);
        dueRow("tests(0) of one state", z, 2, 1, 3);
        due("tests(1) of one state", z.tests(1), 7);
    }

    private static void passes() {
        check.about("promise 32");
        AskingPupil x = with(ROWS);
        due("passes(0) without a guess", x.passes(0), -2);
        due("passes(3) without a guess", x.passes(3), -1);
        x.guess();
        due("passes(0)", x.passes(0), 0);
        due("passes(1)", x.passes(1), 0);
        due("passes(2)", x.passes(2), w("000"));
        due("passes(3)", x.passes(3), -1);
        due("passes(-1)", x.passes(-1), -1);
        x.learns();
        due("passes(2) of what is learnt", x.passes(2), 0);
        AskingPupil y = with("0:1,1;0:2,3;1:0,0;1:3,3");
        y.guess();
        due("passes(1): the first in ORDER", y.passes(1), w("00"));
    }

    private static void parted() {
        check.about("promise 33");
        AskingPupil x = with(THREE);
        due("parted(0, 7) without a guess", x.parted(0, 7), -2);
        due("parted(0, 8) without a guess", x.parted(0, 8), -1);
        due("parted(-1, 0) without a guess", x.parted(-1, 0), -1);
        x.learns();
        due("parted(0, 0)", x.parted(0, 0), 0);
        due("parted(0, 1)", x.parted(0, 1), w("0"));
        due("parted(1, 0)", x.parted(1, 0), w("0"));
        due("parted(0, 2)", x.parted(0, 2), 1);
        due("parted(2, 1)", x.parted(2, 1), 1);
        due("parted(0, 3)", x.parted(0, 3), -1);
        due("parted(3, 0)", x.parted(3, 0), -1);
    }

    private static void like() {
        check.about("promise 34");
        AskingPupil x = with(ROWS);
        due("like(0, 0)", x.like(0, 0), 0);
        due("like(0, 1)", x.like(0, 1), w("00"));
        due("like(1, 0)", x.like(1, 0), w("00"));
        due("like(1, 2)", x.like(1, 2), w("0"));
        due("like(2, 3)", x.like(2, 3), 1);
        due("like(0, 4)", x.like(0, 4), -1);
        due("like(4, 0)", x.like(4, 0), -1);
        due("like(-1, 0)", x.like(-1, 0), -1);
        due("like(0, 8)", x.like(0, 8), -1);
        tell(x, "1:1,1;1:2,0;1:0,1");
        due("like(0, 2) of three alike", x.like(0, 2), 0);
        tell(x, "0:1;0:2;0:3;0:4;0:5;0:6;0:7;1:7");
        due("like(0, 1) of 8 in a row", x.like(0, 1), w("000000"));
    }

    private static void least() {
        check.about("promise 35");
        AskingPupil x = with(ROWS);
        due("least()", x.least(), 4);
        dueRow("least()", x, 0, 1, 2, 3);
        // 1 and 3 are alike, 2 and 4 too; 2 and 4 are no word's end.
        tell(x, "0:1;1:3;2:2;1:1;2:4");
        due("least()", x.least(), 2);
        dueRow("least()", x, 0, 1, 2, 1, 2);
        tell(x, "0:1,1;0:0,1");
        due("least() of two alike", x.least(), 1);
        dueRow("least() of two alike", x, 0, 0);
        // 2 is reached and like 1, which is not.
        tell(x, "0:2;1:0;1:0");
        due("least(), the least alike is not reached", x.least(), 2);
        dueRow("it", x, 0, 1, 1);
    }

    private static void reach() {
        check.about("promise 36");
        AskingPupil x = with("0:3,1;0:0,1;0:2,2;0:1,4;0:4,4");
        long[] words = {1, w("1"), 0, w("0"), w("01"), -1};
        for (int s = 0; s < words.length; s++) due("reach(" + s + ")", x.reach(s), words[s]);
        due("reach(-1)", x.reach(-1), -1);
        due("reach(8)", x.reach(8), -1);
        tell(x, "0:1;0:2;0:3;0:4;0:5;0:6;0:7;1:7");
        due("reach(7)", x.reach(7), w("0000000"));
    }

    private static void groups() {
        check.about("promise 37");
        AskingPupil x = with(ROWS);
        due("groups(0)", x.groups(0), 2);
        dueRow("groups(0)", x, 0, 0, 0, 3);
        due("groups(1)", x.groups(1), 3);
        dueRow("groups(1)", x, 0, 0, 2, 3);
        due("groups(2)", x.groups(2), 4);
        dueRow("groups(2)", x, 0, 1, 2, 3);
        due("groups(7)", x.groups(7), 4);
        due("groups(8)", x.groups(8), -1);
        due("groups(-1)", x.groups(-1), -1);
        dueRow("groups(-1)", x, 0, 1, 2, 3);
        tell(x, "0:1;0:2;0:3;0:4;0:5;0:6;0:7;1:7");
        for (int k = 0; k <= 7; k++) due("groups(" + k + ") of 8 in a row", x.groups(k), Math.min(k + 2, 8));
        tell(x, "0:0;1:1;1:1");
        due("groups(0) with states that are not reached", x.groups(0), 2);
        dueRow("it", x, 0, 1, 1);
    }

    private static void costs() {
        check.about("promise 38");
        AskingPupil x = with(THREE);
        int[] costs = {15, 21, 15, 15};
        long[][] rows = {{5, 1, 3, 3, 2}, {6, 1, 4, 3, 3}, {5, 1, 4, 3, 2}, {5, 1, 3, 3, 2}};
        for (int m = 0; m < 4; m++) {
            due("costs(" + m + ")", x.costs(m), costs[m]);
            dueRow("costs(" + m + ")", x, rows[m]);
        }
        due("words asked", x.count(3), 0);
        due("guess", x.count(6), -1);
        due("heads", x.head(-1), 1);
        due("costs(4)", x.costs(4), -1);
        due("costs(-1)", x.costs(-1), -1);
        x.prices(10, 0);
        due("costs(1) at 10 a word", x.costs(1), 60);
        x.prices(0, 2);
        due("costs(0) at 2 a letter", x.costs(0), 20);
        for (int m = 0; m < 4; m++) {
            x.prices(3, 5);
            int thought = x.costs(m);
            x.method(m);
            x.learns();
            due("costs(" + m + ") and what is paid", thought, x.count(4));
        }
    }

    private static void cheapest() {
        check.about("promise 39");
        AskingPupil x = with(THREE);
        due("cheapest(), three of the same cost", x.cheapest(), 0);
        dueRow("cheapest()", x, 15, 21, 15, 15);
        due("words asked", x.count(3), 0);
        x.prices(0, 0);
        due("cheapest() at no price", x.cheapest(), 0);
        dueRow("cheapest() at no price", x, 0, 0, 0, 0);
        int[] cheapest = new int[4];
        for (int seed = 1; seed <= 30; seed++) {
            AskingPupil y = new AskingPupil();
            y.prices(9, 4);
            y.draws(seed, 8, 2, 2);
            int best = y.cheapest();
            cheapest[best]++;
            long least = y.row(best);
            for (int m = 0; m < 4; m++) {
                y.cheapest();
                long cost = y.row(m);
                due("cost of method " + m + ", seed " + seed, cost, y.costs(m));
                check.holds("cheapest(), seed " + seed, m < best ? cost > least : cost >= least);
            }
        }
        check.holds("not always the same method is cheapest", cheapest[0] < 30 && cheapest[3] < 30);
    }

    private static void count() {
        check.about("promise 40");
        AskingPupil x = with(THREE, 2);
        x.prices(8, 9);
        x.sign(0);
        x.learns();
        int[] counts = {2, 1, 3, 5, 5 * 8 + 10 * 9, 1, 3, 2, 4, 8, 9};
        for (int what = 0; what < counts.length; what++) due("count(" + what + ")", x.count(what), counts[what]);
        due("count(11)", x.count(11), -1);
        due("count(-1)", x.count(-1), -1);
        due("count(MIN)", x.count(Integer.MIN_VALUE), -1);
        x.least();
        due("numbers of the ROW of least()", x.count(7), 3);
    }

    private static void row() {
        check.about("promise 41");
        AskingPupil x = with(ROWS);
        check.holds("row(0) of none throws", rowThrows(x, 0));
        x.least();
        for (int i = 0; i < 4; i++) due("row(" + i + ")", x.row(i), i);
        check.holds("row(4) of 4 throws", rowThrows(x, 4));
        check.holds("row(-1) throws", rowThrows(x, -1));
        check.holds("row(MAX) throws", rowThrows(x, Integer.MAX_VALUE));
        x.guess();
        due("row(0) of one", x.row(0), 1);
        check.holds("row(1) of one throws", rowThrows(x, 1));
        x.draws(3, 8, 2, 4);
        x.groups(7);
        due("numbers", x.count(7), 8);
        check.holds("row(8) of 8 throws", rowThrows(x, 8));
    }

    private static void rowStays() {
        check.about("terms 3, the ROW");
        AskingPupil x = with(ODD);
        x.groups(0);
        dueRow("groups(0)", x, 0, 1);
        x.step();
        dueRow("step() 1", x, 3, w("0"));
        x.lines();
        x.sift(1);
        x.reads(1);
        x.wrong(3);
        x.tests(0);
        x.groups(9);
        x.costs(7);
        x.knot(0, 0);
        x.cell(0, 0, 0);
        x.tells(w("0"));
        x.method(3);
        x.asks(w("0"));
        x.prices(4, 4);
        x.draws(1, 4, 2, 2);
        tell(x, THREE);
        tell(x, "9");
        x.sift(w("00"));
        x.errs();
        x.like(0, 1);
        x.reach(0);
        x.passes(1);
        x.parted(0, 0);
        dueRow("calls that tell none, or refuse", x, 3, w("0"));
    }

    private static void ordersOfRefusal() {
        check.about("terms 3, which of several answers below 0");
        AskingPupil x = with(ODD);
        due("no word, no guess", x.tells(w("2")), -1);
        due("no state, no guess", x.parted(0, 9), -1);
        due("too long, no tree", x.sift(w("0".repeat(16))), -1);
        due("no tail, not asked", x.cell(0, -1, 1), -1);
        due("no guess, and right anyhow", x.tells(w("1")), -2);
        x.method(3);
        due("no tail, a tree", x.cell(0, 0, 1), -1);
        due("a tree, not asked", x.cell(0, 0, 0), -2);
        due("lines() of a tree, not asked", x.lines(), -2);
        due("no such knot, a tree", x.knot(1, 0), -1);
    }

    private static void machineMakesPupilNew() {
        check.about("promises 4 and 5, the pupil");
        AskingPupil x = with(THREE, 3);
        x.prices(6, 2);
        x.learns();
        tell(x, ODD);
        int[] fresh = {3, 2, 2, 1, 6, 0, -1, 2, 0, 6, 2};
        for (int what = 0; what < fresh.length; what++) due("count(" + what + ") behind machine()", x.count(what), fresh[what]);
        due("leaves", x.head(-1), 1);
        due("knots", x.tail(-1), 1);
        x.learns();
        tell(x, "0:4");
        due("a text that is refused leaves the guess", x.count(6), 2);
        x.draws(77, 2, 3, 2);
        int[] drawn = {3, 3, 2, 1, 6, 0, -1, 2, 0, 6, 2};
        for (int what = 0; what < drawn.length; what++) due("count(" + what + ") behind draws()", x.count(what), drawn[what]);
        due("known(nothing)", x.known(1), 1);
        x.method(0);
        x.learns();
        x.draws(78, 3, 1, 2);
        due("words asked by method 0", x.count(3), 0);
        due("guess by method 0", x.count(6), -1);
    }

    /** The machine, or the guess: by states its output, then what comes by each letter. */
    private static int[][] tableOf(AskingPupil x, boolean guess) {
        int[][] table = new int[guess ? x.count(6) : x.count(2)][x.count(1) + 1];
        for (int s = 0; s < table.length; s++) {
            for (int what = 0; what < table[s].length; what++) table[s][what] = guess ? x.guessed(s, what) : x.state(s, what);
        }
        return table;
    }

    private static int endFrom(int[][] table, int s, long word) {
        int end = s;
        for (char letter : Long.toString(word, 4).substring(1).toCharArray()) end = table[end][1 + letter - '0'];
        return end;
    }

    /** What searches answer is what comes of trying the words one by one. */
    private static void byDefinition() {
        for (int seed = 1; seed <= 120; seed++) {
            AskingPupil x = new AskingPupil();
            x.draws(seed * 7919, 1 + seed % 5, 1 + seed % 3, 1 + seed % 4);
            x.method(seed / 3 % 4);
            x.guess();
            check.about("by definition, seed " + seed);
            int[][] machine = tableOf(x, false);
            int[][] guess = tableOf(x, true);
            int letters = x.count(1);
            int words = letters == 1 ? 20 : 1000;
            long errs = 0;
            long[] like = new long[5];
            long[] reach = new long[5];
            for (int k = 0; k < words; k++) {
                long word = kth(k, letters);
                int s = endFrom(machine, 0, word);
                int read = endFrom(guess, 0, word);
                if (k < 90) due("run(" + word + ")", x.run(word), s);
                if (k < 90) due("reads(" + word + ")", x.reads(word), read);
                if (k < 90) dueRow("reads(" + word + ")", x, guess[read][0]);
                if (reach[s] == 0) reach[s] = word;
                if (errs == 0 && guess[read][0] != machine[s][0]) errs = word;
                for (int t = 0; t < machine.length; t++) {
                    boolean unlike = machine[endFrom(machine, t, word)][0] != machine[s][0];
                    if (unlike && like[t] == 0) like[t] = word;
                }
            }
            due("errs()", x.errs(), errs);
            for (int t = 0; t < machine.length; t++) {
                due("reach(" + t + ")", x.reach(t), reach[t]);
                due("like(0, " + t + ")", x.like(0, t), like[t]);
            }
        }
    }
}
