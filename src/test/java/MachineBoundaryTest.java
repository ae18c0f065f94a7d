/** The boundary cases that promises 1 to 7 name, a test for each sentence. */
public final class MachineBoundaryTest extends Hand {
    private static final String TWO = "3:1,0,1;2:1,1,0";

    private MachineBoundaryTest() {
    }

    public static void main(String[] args) {
        check = new Check("MachineBoundaryTest");
        newObject();
        signsHighestFirst();
        signsUpToSixtyFour();
        signsRefused();
        endKeepsTheFirst();
        endRefused();
        machineOfTheMost();
        everyPrefix();
        everySignAtEveryPlace();
        noBlanks();
        lettersAsByTheFirst();
        outputAboveThree();
        stateAboveSeven();
        ninthState();
        stateNotTold();
        machineMakesPupilNew();
        textEndsTooEarly();
        drawsOfAll();
        drawsRefused();
        drawsAnswersUnlikeStates();
        drawsMakesPupilNew();
        states();
        runs();
        check.end();
    }

    private static void newObject() {
        about("1: One STATE, one LETTER; the PUPIL is NEW");
        AskingPupil x = new AskingPupil();
        int[] counts = {0, 1, 1, 0, 0, 0, -1, 0, 0, 1, 1};
        for (int what = 0; what < counts.length; what++) due("count(" + what + ")", x.count(what), counts[what]);
        due("least()", x.least(), 1);
        due("learns()", x.learns(), 1);
        due("words asked", x.count(3), 2);
    }

    private static void signsHighestFirst() {
        about("2: Four signs come behind THE TEXT, of v the highest byte first: how many it has");
        AskingPupil x = new AskingPupil();
        due("the first four", x.sign(0x303A303B), 4);
        due("four behind them", x.sign(0x313A3100), 8);
        x.end(7);
        due("machine()", x.machine(), 2);
        due("OUTPUT of state 1", x.state(1, 0), 1);
        due("a value below 0", x.sign(0xFFFFFFFF), 4);
        due("machine() of signs 255", x.machine(), -21);
        x.sign(0x803A3030);
        due("machine() of sign 128", x.machine(), -21);
        x.sign(0x303A3080);
        due("machine() of sign 128 as the last", x.machine(), -24);
        x.sign(Integer.MIN_VALUE + 0x303A30);
        due("machine() of sign 128, highest first", x.machine(), -21);
        x.sign(0x00303A30);
        due("sign 0 is a sign", x.machine(), -21);
    }

    private static void signsUpToSixtyFour() {
        about("2: Refused: there would be more than 64");
        for (int before = 0; before <= 64; before++) {
            AskingPupil x = new AskingPupil();
            write(x, "7".repeat(before));
            due("signs", x.count(8), before);
            due("sign() behind " + before, x.sign(0x37373737), before <= 60 ? before + 4 : -1);
            due("signs then", x.count(8), before <= 60 ? before + 4 : before);
        }
    }

    private static void signsRefused() {
        about("2, refused: the calls behind it answer as if it had not been made");
        AskingPupil x = new AskingPupil();
        write(x, MOST + "z");
        due("signs", x.count(8), 64);
        due("a 65th sign", x.sign(0x39393939), -1);
        due("end(63)", x.end(63), true);
        due("a 64th to 67th", x.sign(0x39393939), -1);
        due("machine()", x.machine(), 8);
        for (int s = 0; s < 8; s++) due("state(" + s + ", 1)", x.state(s, 1), Math.min(7, s + 1));
        due("the text is empty, and takes signs", x.sign(0), 4);
    }

    private static void endKeepsTheFirst() {
        about("3: THE TEXT has its first n signs alone: true");
        for (int n = 0; n <= 64; n++) {
            AskingPupil x = new AskingPupil();
            write(x, MOST + "z");
            due("end(" + n + ") of 64", x.end(n), true);
            due("signs", x.count(8), n);
        }
        AskingPupil x = new AskingPupil();
        write(x, "0:0;1:1");
        due("end(7) of 7", x.end(7), true);
        due("end(3) of 7", x.end(3), true);
        due("machine()", x.machine(), 1);
        due("end(0) of nothing", x.end(0), true);
        write(x, "0:0;1:1");
        due("end(0) of 7", x.end(0), true);
        due("machine()", x.machine(), -21);
    }

    private static void endRefused() {
        about("3: false if it has not so many, or n is below 0");
        for (int have : new int[] {0, 1, 4, 63, 64}) {
            AskingPupil x = new AskingPupil();
            write(x, (MOST + "z").substring(0, have));
            for (int n : new int[] {have + 1, have + 2, 65, 68, Integer.MAX_VALUE, -1, -4, Integer.MIN_VALUE}) {
                due("end(" + n + ") of " + have, x.end(n), false);
                due("signs then", x.count(8), have);
            }
            due("end(" + have + ") of " + have, x.end(have), true);
        }
    }

    private static void machineOfTheMost() {
        about("4: STATES with ; between: OUTPUT, :, then by LETTERS the STATE that comes, with , between: how many STATES");
        AskingPupil x = new AskingPupil();
        due("the shortest text", tell(x, "0:0"), 1);
        due("the longest text", tell(x, MOST), 8);
        due("l", x.count(1), 3);
        due("by the last letter of the last state", x.state(7, 3), 0);
        due("two states", tell(x, TWO), 2);
        int[][] told = {{3, 1, 0, 1}, {2, 1, 1, 0}};
        for (int s = 0; s < 2; s++) {
            for (int what = 0; what < 4; what++) due("state(" + s + ", " + what + ")", x.state(s, what), told[s][what]);
        }
        due("the third", x.state(2, 0), -1);
    }

    private static void everyPrefix() {
        about("4: -21 - p: p is the number of its signs, if it ends too early");
        for (String text : new String[] {TWO, MOST, "0:0;0:0;0:0;0:0;0:0;0:0;0:0;0:0"}) {
            for (int n = 0; n <= text.length(); n++) dueAsSlow(text.substring(0, n));
        }
        String[] early = {"", "0", "0:", "0:0,", "0:0,0,", "0:0;", "0:0;0", "0:0;0:", "0:0,0;0:0", "0:0,0;0:0,", "0:0,0,0;0:0,0"};
        for (String text : early) due("'" + text + "'", tell(new AskingPupil(), text), -21 - text.length());
    }

    private static void dueAsSlow(String text) {
        AskingPupil x = new AskingPupil();
        SlowPupil slow = new SlowPupil();
        for (int i = 0; i < text.length(); i += 4) {
            x.sign(four(text, i));
            slow.sign(four(text, i));
        }
        x.end(text.length());
        slow.end(text.length());
        due("machine() of '" + text + "'", x.machine(), slow.machine());
        due("n behind it", x.count(2), slow.count(2));
        due("l behind it", x.count(1), slow.count(1));
        due("signs behind it", x.count(8), 0);
    }

    private static void everySignAtEveryPlace() {
        about("4: -21 - p: the first sign with which no text as told can begin so far");
        for (String text : new String[] {TWO, "0:1;1:0;2:0"}) {
            for (int p = 0; p < text.length(); p++) {
                for (char sign = 0; sign < 256; sign++) {
                    dueAsSlow(text.substring(0, p) + sign + text.substring(p + 1));
                    if (sign > 40 && sign < 64) dueAsSlow(text.substring(0, p) + sign + text.substring(p));
                }
            }
        }
        AskingPupil x = new AskingPupil();
        due("of two wrong signs the first", tell(x, "0:0;9:9"), -25);
        due("a wrong sign, though an earlier state is not told", tell(x, "0:5,0;1:0;"), -30);
        due("a sign that is none, behind one that is missing", tell(x, ":0"), -21);
    }

    private static void noBlanks() {
        about("4: a digit each, no blanks");
        String[] texts = {" 0:0", "0 :0", "0: 0", "0:0 ", "0:0, 0", "0:0;\t0:0", "00:0", "0:00", "0:0,00", "0:-1", "0:+1", "-0:0"};
        int[] places = {0, 1, 2, 3, 4, 4, 1, 3, 5, 2, 2, 0};
        for (int i = 0; i < texts.length; i++) due("'" + texts[i] + "'", tell(with(ODD), texts[i]), -21 - places[i]);
    }

    private static void lettersAsByTheFirst() {
        about("4: as many by each STATE as by the first");
        AskingPupil x = new AskingPupil();
        due("1, 1", tell(x, "0:0;0:0"), 2);
        due("1, 2", tell(x, "0:0;0:0,0"), -28);
        due("2, 1, and nothing behind", tell(x, "0:0,0;0:0"), -30);
        due("2, 1, and a state behind", tell(x, "0:0,0;0:0;0:0,0"), -30);
        due("2, 2", tell(x, "0:0,0;0:0,0"), 2);
        due("2, 3", tell(x, "0:0,0;0:0,0,0"), -32);
        due("3, 2", tell(x, "0:0,0,0;0:0,0;0:0,0,0"), -34);
        due("3, 3", tell(x, "0:0,0,0;0:0,0,0"), 2);
        due("3, 4", tell(x, "0:0,0,0;0:0,0,0,0"), -36);
        due("4", tell(x, "0:0,0,0,0;0:0,0,0,0"), -28);
        due("2, 2, 1", tell(x, "0:0,0;0:0,0;0:0"), -36);
        due("l then", x.count(1), 3);
    }

    private static void outputAboveThree() {
        about("4: -21 - p (an OUTPUT above 3: it)");
        for (char output = '0'; output <= '9'; output++) {
            AskingPupil x = new AskingPupil();
            due("OUTPUT " + output, tell(x, output + ":0"), output <= '3' ? 1 : -21);
            due("OUTPUT " + output + " of the third", tell(x, "0:0;1:1;" + output + ":2"), output <= '3' ? 3 : -29);
            due("the third's", x.state(2, 0), output <= '3' ? output - '0' : -1);
        }
    }

    private static void stateAboveSeven() {
        about("4: -21 - p (a STATE above 7: it)");
        String seven = MOST.substring(0, MOST.length() - 1);
        for (char state = '0'; state <= '9'; state++) {
            AskingPupil x = new AskingPupil();
            due("STATE " + state + " of 8", tell(x, seven + state), state <= '7' ? 8 : -21 - 62);
            due("by it", x.state(7, 3), state <= '7' ? state - '0' : -1);
            due("STATE " + state + " of 1", tell(x, "0:" + state), state == '0' ? 1 : state <= '7' ? -100 : -23);
        }
    }

    private static void ninthState() {
        about("4: -21 - p (a 9th STATE: the ; ahead of it)");
        AskingPupil x = new AskingPupil();
        String eight = "0:0;0:0;0:0;0:0;0:0;0:0;0:0;0:0";
        due("an 8th", tell(x, eight), 8);
        due("a ; behind the 8th", tell(x, eight + ";"), -21 - 31);
        due("a 9th", tell(x, eight + ";0:0"), -21 - 31);
        due("a 9th with a wrong sign", tell(x, eight + ";9"), -21 - 31);
        due("a , behind the 8th", tell(x, eight + ","), -21 - 31);
        due("a ; behind 8 of 3 letters", tell(x, MOST + ";"), -21 - 63);
        due("n then", x.count(2), 8);
    }

    private static void stateNotTold() {
        about("4: then -100: a STATE that comes is not told (nothing changes)");
        for (int n = 1; n <= 7; n++) {
            StringBuilder text = new StringBuilder();
            for (int s = 0; s < n; s++) text.append(s > 0 ? ";" : "").append(s % 4).append(":0,");
            AskingPupil x = new AskingPupil();
            due("the last of " + n, tell(x, text.toString().replace(",", "," + (n - 1))), n);
            x.prices(3, 4);
            x.learns();
            int asked = x.count(3);
            due("one behind it of " + n, tell(x, text.toString().replace(",", "," + n)), -100);
            due("seven", tell(x, text.toString().replace(",", ",7")), -100);
            due("n then", x.count(2), n);
            due("by letter 1 then", x.state(n - 1, 2), n - 1);
            due("words asked then", x.count(3), asked);
            due("there is a guess then", x.errs(), 0);
        }
        AskingPupil x = new AskingPupil();
        due("one told later", tell(x, "0:1;0:1"), 2);
        due("by the last state alone", tell(x, "0:1;0:2"), -100);
        due("by the first letter alone", tell(x, "0:2,0;0:0,1"), -100);
        due("-21 - p ahead of it", tell(x, "0:2,0;0:0,1;"), -33);
    }

    private static void machineMakesPupilNew() {
        about("4: the PUPIL is NEW (METHOD, START, STEP stay)");
        for (int m = 0; m < 4; m++) {
            AskingPupil x = with(THREE, m);
            x.prices(0, 99);
            x.learns();
            due("machine()", tell(x, THREE), 3);
            int[] counts = {m, 1, 3, m == 3 ? 1 : 0, 0, 0, -1, 2, 0, 0, 99};
            for (int what = 0; what < counts.length; what++) due("count(" + what + ") by method " + m, x.count(what), counts[what]);
            due("heads", x.head(-1), 1);
            due("tails", x.tail(-1), 1);
            x.prices(99, 0);
            tell(x, ODD);
            due("START", x.count(9), 99);
            due("STEP", x.count(10), 0);
            due("COST", x.count(4), m == 3 ? 99 : 0);
        }
    }

    private static void textEndsTooEarly() {
        about("4: THE TEXT is the MACHINE: it is read to its end, and no further");
        AskingPupil x = new AskingPupil();
        write(x, "0:0;1:1,1");
        x.end(7);
        due("signs behind the end are gone", x.machine(), 2);
        write(x, "0:0,0,0;0:0");
        x.end(3);
        due("what is left of one letter", x.machine(), 1);
        due("l", x.count(1), 1);
        due("machine() again: the text is empty", x.machine(), -21);
    }

    private static void drawsOfAll() {
        about("5: by STATES a DRAW of outputs (1 .. 4), then by LETTERS a DRAW of n; n 1 .. 8, l 1 .. 3");
        for (int n = 1; n <= 8; n++) {
            for (int l = 1; l <= 3; l++) {
                for (int outputs = 1; outputs <= 4; outputs++) {
                    AskingPupil x = new AskingPupil();
                    due("draws() is not refused", x.draws(-n * l, n, l, outputs) >= 1, true);
                    dueDrawn(x, -n * l, n, l, outputs);
                }
            }
        }
    }

    private static void dueDrawn(AskingPupil x, int seed, int n, int l, int outputs) {
        long r = seed & 0xFFFFFFFFL;
        due("n", x.count(2), n);
        due("l", x.count(1), l);
        for (int s = 0; s < n; s++) {
            for (int what = 0; what <= l; what++) {
                r = r * 1103515245L + 12345L & 0xFFFFFFFFL;
                due("state(" + s + ", " + what + ")", x.state(s, what), r / 65536 % (what == 0 ? outputs : n));
            }
        }
    }

    private static void drawsRefused() {
        about("5: outputs (1 .. 4); n 1 .. 8, l 1 .. 3; refused, the calls behind it answer as if it had not been made");
        int[][] refused = {{0, 1, 1}, {9, 1, 1}, {-1, 1, 1}, {1, 0, 1}, {1, 4, 1}, {1, -1, 1}, {1, 1, 0}, {1, 1, 5}, {1, 1, -1},
            {8, 3, 5}, {8, 4, 4}, {9, 3, 4}, {Integer.MAX_VALUE, 1, 1}, {1, Integer.MIN_VALUE, 1}, {1, 1, Integer.MAX_VALUE}};
        AskingPupil x = learnt(ODD, 0);
        write(x, THREE);
        for (int[] a : refused) due("draws(1, " + a[0] + ", " + a[1] + ", " + a[2] + ")", x.draws(1, a[0], a[1], a[2]), -1);
        due("n", x.count(2), 2);
        due("state(0, 1)", x.state(0, 1), 1);
        due("the guess", x.count(6), 2);
        due("words asked", x.count(3), 5);
        due("signs", x.count(8), THREE.length());
        due("machine()", x.machine(), 3);
    }

    private static void drawsAnswersUnlikeStates() {
        about("5: how many unlike STATES it has, as least() tells");
        for (int seed = 0; seed < 120; seed++) {
            AskingPupil x = new AskingPupil();
            int unlike = x.draws(seed, 1 + seed % 8, 1 + seed % 3, 1 + seed % 4);
            due("least(), seed " + seed, x.least(), unlike);
            due("learns(), seed " + seed, x.learns(), unlike);
        }
        AskingPupil x = new AskingPupil();
        due("states that no word comes to do not count", x.draws(1, 2, 1, 2), 1);
        due("though they are unlike", x.like(0, 1), 1);
        due("one output alone", x.draws(1, 8, 3, 1), 1);
        due("one state alone", x.draws(1, 1, 3, 4), 1);
    }

    private static void drawsMakesPupilNew() {
        about("5: the PUPIL is NEW likewise");
        for (int m = 0; m < 4; m++) {
            AskingPupil x = learnt(THREE, m);
            x.prices(99, 0);
            x.draws(1, 8, 2, 3);
            int[] counts = {m, 2, 8, m == 3 ? 1 : 0, m == 3 ? 99 : 0, 0, -1, 2, 0, 99, 0};
            for (int what = 0; what < counts.length; what++) due("count(" + what + ") by method " + m, x.count(what), counts[what]);
            due("heads", x.head(-1), 1);
            due("tails", x.tail(-1), 1);
        }
    }

    private static void states() {
        about("6: what 0: OUTPUT, 1 and x: the STATE that comes by LETTER x. NONE for others");
        String[] texts = {"2:0", "2:0,0", "2:0,0,0"};
        for (int l = 1; l <= 3; l++) {
            AskingPupil x = with(texts[l - 1]);
            due("state(0, 0)", x.state(0, 0), 2);
            for (int what = 1; what <= l; what++) due("state(0, " + what + ")", x.state(0, what), 0);
            for (int what : new int[] {l + 1, l + 2, -1, -2, Integer.MIN_VALUE, Integer.MAX_VALUE}) {
                due("state(0, " + what + ") of " + l + " letters", x.state(0, what), -1);
            }
            for (int s : new int[] {1, 7, 8, -1, Integer.MIN_VALUE, Integer.MAX_VALUE}) due("state(" + s + ", 0)", x.state(s, 0), -1);
        }
        AskingPupil x = with(MOST);
        due("the last of all", x.state(7, 3), 0);
        due("a state behind", x.state(8, 3), -1);
        due("a letter behind", x.state(7, 4), -1);
        tell(x, "0:0");
        due("a state of the machine ahead", x.state(1, 0), -1);
        due("a letter of the machine ahead", x.state(0, 2), -1);
    }

    private static void runs() {
        about("7: The END of a WORD");
        AskingPupil x = with(MOST);
        for (int n = 0; n <= 30; n++) due("run() of " + n + " letters", x.run(w(zeros(n))), Math.min(n, 7));
        due("31 letters", x.run(w(zeros(31))), -1);
        due("the last letter of 30 leads back", x.run(w(zeros(29) + "2")), 0);
        due("the first letter alone leads back", x.run(w("2" + zeros(6))), 6);
        due("a letter that is none", x.run(w("3")), -1);
    }
}
