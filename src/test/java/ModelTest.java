import java.lang.reflect.InvocationTargetException;
import java.lang.reflect.Method;
import java.util.Arrays;
import java.util.Map;
import java.util.TreeMap;

/** Runs of drawn calls on an AskingPupil and a SlowPupil side by side: each call must answer alike, and all that can be seen must be alike behind it. */
public final class ModelTest {
    private static final int RUNS = 1500;
    /** An object is used for at most 512 calls: what draws a call leaves so many for it, and for looks behind it. */
    private static final int CALLS = 512 - 176;
    private static final int LOOKED_AT = 16;
    private static final String SIGNS = "01234567:,;";
    private static final Check CHECK = new Check("ModelTest");
    private static final Map<String, Method> FACE = new TreeMap<>();
    private static final Map<String, Method> MODEL = new TreeMap<>();
    /** What is called, and how often beside the others. */
    private static final String[] CALLED = {
        "sign", "end", "machine", "text", "text", "draws", "draws", "state", "run", "joins", "letter", "cut", "word",
        "prices", "method", "method", "asks", "asks", "known", "step", "step", "step", "guess", "guess", "guess",
        "tells", "tells", "tells", "tellsWrong", "tellsWrong", "learns", "head", "tail", "cell", "cell", "lines",
        "lines", "knot", "knot", "sift", "sift", "guessed", "access", "reads", "errs", "wrong", "tests", "tests",
        "passes", "passes", "parted", "like", "least", "reach", "groups", "costs", "cheapest", "count", "row"
    };

    private static long drawn = 20261119L;
    private static AskingPupil pupil;
    private static SlowPupil model;
    private static boolean alike;
    /** How often the pupil was called. */
    private static int used;
    private static final StringBuilder HISTORY = new StringBuilder();

    private ModelTest() {
    }

    public static void main(String[] args) throws Exception {
        for (Method m : AskingPupil.class.getDeclaredMethods()) FACE.put(m.getName(), m);
        for (Method m : SlowPupil.class.getDeclaredMethods()) {
            if (FACE.containsKey(m.getName()) && java.lang.reflect.Modifier.isPublic(m.getModifiers())) MODEL.put(m.getName(), m);
        }
        for (int run = 0; run < RUNS; run++) {
            pupil = new AskingPupil();
            model = new SlowPupil();
            HISTORY.setLength(0);
            alike = true;
            used = 0;
            callSome("draws");
            while (used < CALLS && alike) {
                callSome(CALLED[below(CALLED.length)]);
                if (below(6) == 0) lookAtBoth("some call");
            }
            lookAtBoth("the run");
        }
        CHECK.end();
    }

    private static int below(int bound) {
        drawn = drawn * 6364136223846793005L + 1442695040888963407L;
        return (int) ((drawn >>> 33) % bound);
    }

    private static void callSome(String name) throws Exception {
        if (name.equals("text")) tellText();
        else if (name.equals("tellsWrong")) tellWrong();
        else call(name, arguments(name));
    }

    private static void call(String name, Object... arguments) throws Exception {
        String told = name + Arrays.toString(arguments);
        HISTORY.append(told).append(' ');
        String got = answer(FACE.get(name), pupil, arguments);
        String want = answer(MODEL.get(name), model, arguments);
        compare(told, got, want);
        compare(told + ", the ROW behind it:", row(pupil, FACE), row(model, MODEL));
    }

    private static void lookAtBoth(String what) throws Exception {
        compare(what + ", all that is seen behind it:", look(pupil, FACE), look(model, MODEL));
    }

    /** A run ends with its first fault: what comes behind it tells nothing more. */
    private static void compare(String what, String got, String want) {
        if (!alike) return;
        alike = got.equals(want);
        CHECK.due(alike ? what : HISTORY.toString(), got, want);
    }

    private static String answer(Method method, Object on, Object... arguments) throws IllegalAccessException {
        if (on == pupil) used++;
        try {
            return String.valueOf(method.invoke(on, arguments));
        } catch (InvocationTargetException e) {
            return e.getCause().getClass().getSimpleName();
        }
    }

    private static String row(Object on, Map<String, Method> face) throws Exception {
        return answer(face.get("count"), on, 7) + " " + answer(face.get("row"), on, 0);
    }

    /** All that tells of an object's state, short of the words asked; of HEADS and TAILS those that came last. */
    private static String look(Object on, Map<String, Method> face) throws Exception {
        StringBuilder seen = new StringBuilder();
        for (int what = 0; what <= 10; what++) seen.append(answer(face.get("count"), on, what)).append(' ');
        for (int i = 0; i < 9; i++) seen.append(answer(face.get("row"), on, i)).append(' ');
        for (String list : new String[] {"head", "tail"}) {
            int size = Integer.parseInt(answer(face.get(list), on, -1));
            for (int k = Math.max(0, size - LOOKED_AT); k < size; k++) seen.append(answer(face.get(list), on, k)).append(' ');
        }
        return seen.toString();
    }

    private static void tellText() throws Exception {
        call("end", 0);
        String text = drawnText();
        for (int i = 0; i < text.length(); i += 4) call("sign", Hand.four(text, i));
        call("end", text.length());
        call("machine");
    }

    private static String drawnText() {
        int n = 1 + below(8);
        int l = 1 + below(3);
        StringBuilder text = new StringBuilder();
        for (int s = 0; s < n; s++) {
            if (s > 0) text.append(';');
            text.append(below(4)).append(':');
            for (int x = 0; x < l; x++) text.append(x > 0 ? "," : "").append(below(below(9) == 0 ? 8 : n));
        }
        int spoilt = below(6);
        int at = below(text.length());
        if (spoilt == 0) text.setCharAt(at, SIGNS.charAt(below(SIGNS.length())));
        if (spoilt == 1) text.setLength(at);
        if (spoilt == 2) text.insert(at, SIGNS.charAt(below(SIGNS.length())));
        if (spoilt == 3) text.append(";0:0");
        if (text.length() > 64) text.setLength(64);
        return text.toString();
    }

    /** Looks for a word that the guess answers wrongly, long ones too, and tells it. */
    private static void tellWrong() throws Exception {
        call("guess");
        for (int i = 0; i < 40; i++) {
            long word = drawnWord(1 + below(14));
            int s = model.reads(word);
            if (model.guessed(s, 0) != model.state(model.run(word), 0)) {
                call("reads", word);
                call("tells", word);
                return;
            }
        }
        call("guess");
        call("tells", model.errs());
    }

    private static long drawnWord(int letters) {
        long word = 1;
        for (int i = 0; i < letters; i++) word = 4 * word + below(model.count(1));
        return word;
    }

    private static long anyWord() {
        switch (below(12)) {
            case 0: return below(40) - 4;
            case 1: return drawnWord(below(32));
            case 2: return drawnWord(13 + below(4));
            case 3: return drawn;
            case 4: return 4 * drawnWord(below(6)) + below(4);
            case 5: return model.head(below((int) model.head(-1)));
            case 6: return model.tail(below((int) model.tail(-1)));
            default: return drawnWord(below(9));
        }
    }

    private static int few(int bound) {
        switch (below(20)) {
            case 0: return -1 - below(2);
            case 1: return bound + below(3);
            case 2: return below(2) == 0 ? Integer.MIN_VALUE : Integer.MAX_VALUE;
            default: return below(bound);
        }
    }

    private static Object[] arguments(String name) {
        int n = model.count(2);
        int l = model.count(1);
        switch (name) {
            case "sign": return new Object[] {below(4) == 0 ? (int) drawn : 0x303A3030 + below(3)};
            case "end": return new Object[] {few(66)};
            case "draws": return new Object[] {(int) drawn, below(30) == 0 ? few(9) : 1 + below(8),
                below(30) == 0 ? few(4) : 1 + below(3), below(30) == 0 ? few(5) : 1 + below(4)};
            case "state": return new Object[] {few(n), few(l + 1)};
            case "run": case "asks": case "known": case "tells": case "sift": case "reads": return new Object[] {anyWord()};
            case "joins": return new Object[] {anyWord(), anyWord()};
            case "letter": return new Object[] {anyWord(), few(6)};
            case "cut": return new Object[] {anyWord(), few(6) - (below(2) == 0 ? 0 : 6)};
            case "word": return new Object[] {below(9) == 0 ? 999990 + below(20) : few(below(3) == 0 ? 1000000 : 60)};
            case "prices": return new Object[] {few(100), few(100)};
            case "method": case "costs": return new Object[] {few(4)};
            case "head": return new Object[] {few((int) model.head(-1))};
            case "tail": return new Object[] {few((int) model.tail(-1))};
            case "cell": return new Object[] {few((int) model.head(-1)), few(l + 1) - 1, few((int) model.tail(-1))};
            case "knot": return new Object[] {few((int) model.tail(-1)), few(4)};
            case "guessed": return new Object[] {few(Math.max(1, model.count(6))), few(l + 1)};
            case "access": return new Object[] {few(Math.max(1, model.count(6)))};
            case "wrong": return new Object[] {few(9)};
            case "tests": case "passes": return new Object[] {few(3)};
            case "parted": return new Object[] {few(Math.max(1, model.count(6))), few(Math.max(1, model.count(6)))};
            case "like": return new Object[] {few(n), few(n)};
            case "reach": return new Object[] {few(n)};
            case "groups": return new Object[] {few(8)};
            case "count": return new Object[] {few(11)};
            case "row": return new Object[] {few(Math.max(1, model.count(7)))};
            default: return new Object[0];
        }
    }
}
