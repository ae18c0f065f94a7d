import java.util.ArrayList;
import java.util.Comparator;
import java.util.HashSet;
import java.util.LinkedHashMap;
import java.util.List;
import java.util.Map;
import java.util.NoSuchElementException;
import java.util.Set;
import java.util.TreeSet;
import java.util.regex.Matcher;
import java.util.regex.Pattern;

/**
 * A second AskingPupil, against which the first is held: written from the document alone, its words
 * taken one by one, with texts of letters for WORDS and no care for speed or room.
 */
final class SlowPupil {
    private static final Comparator<String> ORDER =
            Comparator.comparingInt(String::length).thenComparing(Comparator.naturalOrder());
    private static final Pattern TOLD = Pattern.compile(told("") + "|" + told(",[0-7]") + "|" + told(",[0-7],[0-7]"));

    /** A machine, or a guess with the words that lead to its states. */
    private static final class Mill {
        int l = 1;
        List<Integer> outputs = new ArrayList<>();
        List<List<Integer>> nexts = new ArrayList<>();
        List<String> access = new ArrayList<>();

        int n() {
            return outputs.size();
        }

        int end(int s, String w) {
            for (char c : w.toCharArray()) s = nexts.get(s).get(c - '0');
            return s;
        }

        int answer(int s, String w) {
            return outputs.get(end(s, w));
        }

        int look(int s, int what) {
            return what == 0 ? outputs.get(s) : nexts.get(s).get(what - 1);
        }
    }

    private static final class Knot {
        final String tail;
        final Object[] below = new Object[4];

        Knot(String tail) {
            this.tail = tail;
        }
    }

    private Mill mill = new Mill();
    private int start = 1;
    private int stepPrice = 1;
    private int method = 0;
    private String text = "";
    private List<Long> numbers = new ArrayList<>();

    private Map<String, Integer> asked = new LinkedHashMap<>();
    private int cost = 0;
    private int lessons = 0;
    private List<String> heads = new ArrayList<>();
    private List<String> tails = new ArrayList<>();
    private List<Knot> knots = new ArrayList<>();
    private Mill guess = null;
    private int met = 0;
    private Knot lastKnot = null;
    private int lastOutput = 0;

    SlowPupil() {
        mill.outputs.add(0);
        mill.nexts.add(List.of(0));
        renew();
    }

    private static String told(String more) {
        String state = "[0-3]:[0-7]" + more;
        return state + "(;" + state + "){0,7}";
    }

    // words

    /** The word of a code, or null. */
    private String wordOf(long code) {
        if (code < 1) return null;
        String digits = Long.toString(code, 4);
        if (digits.charAt(0) != '1' || digits.length() > 31) return null;
        for (char c : digits.substring(1).toCharArray()) {
            if (c - '0' >= mill.l) return null;
        }
        return digits.substring(1);
    }

    private static long code(String w) {
        return Long.parseLong("1" + w, 4);
    }

    private static List<String> upTo(int k, int l) {
        List<String> all = new ArrayList<>();
        all.add("");
        List<String> last = List.of("");
        for (int n = 1; n <= k; n++) {
            List<String> longer = new ArrayList<>();
            for (String w : last) {
                for (int x = 0; x < l; x++) longer.add(w + x);
            }
            all.addAll(longer);
            last = longer;
        }
        return all;
    }

    private static String firstUnlike(Mill one, int p, Mill other, int q) {
        List<String> now = List.of("");
        Set<List<Integer>> seen = new HashSet<>();
        while (!now.isEmpty()) {
            List<String> later = new ArrayList<>();
            for (String w : now) {
                int s = one.end(p, w);
                int t = other.end(q, w);
                if (one.outputs.get(s) != other.outputs.get(t).intValue()) return w;
                if (!seen.add(List.of(s, t))) continue;
                for (int x = 0; x < one.l; x++) later.add(w + x);
            }
            now = later;
        }
        return null;
    }

    private static String firstTo(Mill one, int s) {
        for (int k = 0; k < one.n(); k++) {
            for (String w : upTo(k, one.l)) {
                if (w.length() == k && one.end(0, w) == s) return w;
            }
        }
        return null;
    }

    private static long codeOrZero(String w) {
        return w == null ? 0 : code(w);
    }

    private void tellRow(long... told) {
        numbers = new ArrayList<>();
        for (long number : told) numbers.add(number);
    }

    // the machine

    public int sign(int v) {
        if (text.length() + 4 > 64) return -1;
        for (int i = 3; i >= 0; i--) text += (char) (v >> 8 * i & 255);
        return text.length();
    }

    public boolean end(int n) {
        if (n < 0 || n > text.length()) return false;
        text = text.substring(0, n);
        return true;
    }

    public int machine() {
        String read = text;
        text = "";
        Matcher whole = TOLD.matcher(read);
        if (!whole.matches()) {
            for (int p = 0; p < read.length(); p++) {
                Matcher so = TOLD.matcher(read.substring(0, p + 1));
                if (!so.matches() && !so.hitEnd()) return -21 - p;
            }
            return -21 - read.length();
        }
        Mill fresh = new Mill();
        for (String state : read.split(";")) {
            fresh.outputs.add(state.charAt(0) - '0');
            List<Integer> row = new ArrayList<>();
            for (String next : state.substring(2).split(",")) row.add(Integer.parseInt(next));
            fresh.nexts.add(row);
            fresh.l = row.size();
        }
        for (List<Integer> row : fresh.nexts) {
            for (int next : row) {
                if (next >= fresh.n()) return -100;
            }
        }
        mill = fresh;
        renew();
        return mill.n();
    }

    public int draws(int seed, int n, int l, int outputs) {
        if (n < 1 || n > 8 || l < 1 || l > 3 || outputs < 1 || outputs > 4) return -1;
        Mill fresh = new Mill();
        fresh.l = l;
        long r = seed;
        for (int s = 0; s < n; s++) {
            r = (int) (r * 1103515245L + 12345L);
            fresh.outputs.add((int) (((r & 0xFFFFFFFFL) / 65536) % outputs));
            List<Integer> row = new ArrayList<>();
            for (int x = 0; x < l; x++) {
                r = (int) (r * 1103515245L + 12345L);
                row.add((int) (((r & 0xFFFFFFFFL) / 65536) % n));
            }
            fresh.nexts.add(row);
        }
        mill = fresh;
        renew();
        return unlikeReached();
    }

    public int state(int s, int what) {
        return s < 0 || s >= mill.n() || what < 0 || what > mill.l ? -1 : mill.look(s, what);
    }

    public int run(long word) {
        String w = wordOf(word);
        return w == null ? -1 : mill.end(0, w);
    }

    public long joins(long one, long other) {
        String v = wordOf(one);
        String w = wordOf(other);
        return v == null || w == null || v.length() + w.length() > 30 ? -1 : code(v + w);
    }

    public int letter(long word, int i) {
        String w = wordOf(word);
        if (w == null) return -1;
        if (i == -1) return w.length();
        return i < 0 || i >= w.length() ? -1 : w.charAt(i) - '0';
    }

    public long cut(long word, int n) {
        String w = wordOf(word);
        if (w == null || Math.abs((long) n) > w.length()) return -1;
        return code(n >= 0 ? w.substring(0, n) : w.substring(-n));
    }

    public long word(int k) {
        if (k < 0 || k > 1000000) return -1;
        long left = k;
        for (int n = 0; n <= 30; n++) {
            long many = 1;
            for (int i = 0; i < n; i++) many *= mill.l;
            if (left < many) {
                String digits = mill.l == 1 ? "" : Long.toString(left, mill.l);
                return code("0".repeat(n - Math.min(n, digits.length())) + (n == 0 ? "" : digits));
            }
            left -= many;
        }
        return -1;
    }

    // the pupil

    private void renew() {
        asked = new LinkedHashMap<>();
        cost = 0;
        lessons = 0;
        heads = new ArrayList<>(List.of(""));
        tails = new ArrayList<>(List.of(""));
        knots = new ArrayList<>(List.of(new Knot("")));
        guess = null;
        if (method == 3) knots.get(0).below[ask("")] = 0;
    }

    private int ask(String w) {
        if (w.length() > 30) throw new IllegalStateException("too long a word is asked: " + w);
        if (!asked.containsKey(w)) {
            cost += start;
            for (int i = 0; i < w.length(); i++) cost += stepPrice;
            asked.put(w, mill.answer(0, w));
        }
        return asked.get(w);
    }

    private String line(String w) {
        StringBuilder answers = new StringBuilder();
        for (String e : tails) answers.append(asked.get(w + e));
        return answers.toString();
    }

    private Set<String> linesOfHeads() {
        Set<String> lines = new HashSet<>();
        for (String w : heads) lines.add(line(w));
        return lines;
    }

    private int stepOnce() {
        return method == 3 ? stepInTree() : stepInTable();
    }

    private int stepInTable() {
        for (String w : heads) {
            for (String e : tails) {
                ask(w + e);
                for (int x = 0; x < mill.l; x++) ask(w + x + e);
            }
        }
        Set<String> lines = linesOfHeads();
        for (String w : heads) {
            for (int x = 0; x < mill.l; x++) {
                if (!lines.contains(line(w + x))) {
                    heads.add(w + x);
                    return 1;
                }
            }
        }
        String tail = method == 0 ? tailThatParts() : null;
        if (tail != null) {
            tails.add(tail);
            return 2;
        }
        guess = new Mill();
        guess.l = mill.l;
        List<String> ofStates = new ArrayList<>();
        for (String w : heads) {
            if (ofStates.contains(line(w))) continue;
            ofStates.add(line(w));
            guess.access.add(w);
            guess.outputs.add(asked.get(w));
        }
        for (String w : guess.access) {
            List<Integer> row = new ArrayList<>();
            for (int x = 0; x < mill.l; x++) row.add(ofStates.indexOf(line(w + x)));
            guess.nexts.add(row);
        }
        return 0;
    }

    private String tailThatParts() {
        for (int i = 0; i < heads.size(); i++) {
            for (int j = i + 1; j < heads.size(); j++) {
                String w = heads.get(i);
                String v = heads.get(j);
                if (!line(w).equals(line(v))) continue;
                for (int x = 0; x < mill.l; x++) {
                    for (String e : tails) {
                        if (asked.get(w + x + e).intValue() != asked.get(v + x + e)) return x + e;
                    }
                }
            }
        }
        return null;
    }

    private Object siftWord(String w) {
        Object here = knots.get(0);
        met = 0;
        while (here instanceof Knot knot) {
            met++;
            lastKnot = knot;
            lastOutput = ask(w + knot.tail);
            here = knot.below[lastOutput];
        }
        return here;
    }

    private int stepInTree() {
        for (String head : List.copyOf(heads)) {
            for (int x = 0; x < mill.l; x++) {
                if (siftWord(head + x) == null) {
                    lastKnot.below[lastOutput] = heads.size();
                    heads.add(head + x);
                    return 1;
                }
            }
        }
        guess = new Mill();
        guess.l = mill.l;
        guess.access.addAll(heads);
        for (String head : heads) {
            guess.outputs.add(asked.get(head));
            List<Integer> row = new ArrayList<>();
            for (int x = 0; x < mill.l; x++) row.add((Integer) siftWord(head + x));
            guess.nexts.add(row);
        }
        return 0;
    }

    private int lesson(String w) {
        int before = heads.size() + tails.size();
        int answer = ask(w);
        lessons++;
        if (method == 0) {
            for (int i = 0; i <= w.length(); i++) {
                if (!heads.contains(w.substring(0, i))) heads.add(w.substring(0, i));
            }
        } else if (method == 1) {
            for (int i = w.length(); i >= 0; i--) {
                if (!tails.contains(w.substring(i))) tails.add(w.substring(i));
            }
        } else {
            lessonBySearch(w, answer);
        }
        guess = null;
        return heads.size() + tails.size() - before;
    }

    private void lessonBySearch(String w, int answer) {
        int low = 0;
        int high = w.length();
        while (high > low + 1) {
            int mid = (low + high) / 2;
            String u = guess.access.get(guess.end(0, w.substring(0, mid)));
            if (ask(u + w.substring(mid)) == answer) low = mid;
            else high = mid;
        }
        String e = w.substring(high);
        tails.add(e);
        if (method == 2) return;
        int a = guess.end(0, w.substring(0, high));
        String v = guess.access.get(guess.end(0, w.substring(0, low))) + w.charAt(low);
        Knot knot = new Knot(e);
        for (Knot old : knots) {
            for (int o = 0; o < 4; o++) {
                if (old.below[o] instanceof Integer leaf && leaf == a) old.below[o] = knot;
            }
        }
        knots.add(knot);
        knot.below[ask(heads.get(a) + e)] = a;
        knot.below[ask(v + e)] = heads.size();
        heads.add(v);
    }

    private int stepsTillGuess() {
        int steps = 0;
        while (guess == null) {
            stepOnce();
            steps++;
        }
        return steps;
    }

    private int learn() {
        int steps = stepsTillGuess();
        for (String w = firstUnlike(guess, 0, mill, 0); w != null; w = firstUnlike(guess, 0, mill, 0)) {
            lesson(w);
            steps += stepsTillGuess();
        }
        return steps;
    }

    public boolean prices(int newStart, int newStep) {
        if (newStart < 0 || newStart > 99 || newStep < 0 || newStep > 99) return false;
        start = newStart;
        stepPrice = newStep;
        return true;
    }

    public int method(int m) {
        if (m < 0 || m > 3) return -1;
        int was = method;
        method = m;
        renew();
        return was;
    }

    public int asks(long word) {
        String w = wordOf(word);
        return w == null ? -1 : ask(w);
    }

    public int known(long word) {
        String w = wordOf(word);
        return w == null ? -1 : asked.containsKey(w) ? 1 : 0;
    }

    public int step() {
        if (guess != null) return -2;
        int before = asked.size();
        int done = stepOnce();
        int came = asked.size() - before;
        if (done == 0) tellRow(came);
        else tellRow(came, code(done == 1 ? heads.get(heads.size() - 1) : tails.get(tails.size() - 1)));
        return done;
    }

    public int guess() {
        tellRow(stepsTillGuess());
        return guess.n();
    }

    public int tells(long word) {
        String w = wordOf(word);
        if (w == null || w.length() > 14) return -1;
        if (guess == null) return -2;
        if (guess.answer(0, w) == mill.answer(0, w)) return -3;
        return lesson(w);
    }

    public int learns() {
        int steps = learn();
        tellRow(steps, lessons);
        return guess.n();
    }

    private static long listed(List<String> words, int k) {
        if (k == -1) return words.size();
        return k < 0 || k >= words.size() ? -1 : code(words.get(k));
    }

    public long head(int k) {
        return listed(heads, k);
    }

    public long tail(int k) {
        return listed(tails, k);
    }

    public int cell(int k, int x, int e) {
        if (k < 0 || k >= heads.size() || x < -1 || x >= mill.l || e < 0 || e >= tails.size()) return -1;
        if (method == 3) return -2;
        String w = heads.get(k) + (x == -1 ? "" : "" + x) + tails.get(e);
        return asked.getOrDefault(w, -3);
    }

    public int lines() {
        if (method == 3) return -2;
        for (String w : heads) {
            for (String e : tails) {
                if (!asked.containsKey(w + e)) return -3;
                for (int x = 0; x < mill.l; x++) {
                    if (!asked.containsKey(w + x + e)) return -3;
                }
            }
        }
        Set<String> lines = linesOfHeads();
        int open = 0;
        for (String w : heads) {
            for (int x = 0; x < mill.l; x++) {
                if (!heads.contains(w + x) && !lines.contains(line(w + x))) open++;
            }
        }
        tellRow(heads.size() - lines.size(), open);
        return lines.size();
    }

    public int knot(int k, int output) {
        if (output < 0 || output > 3) return -1;
        if (method != 3) return -2;
        if (k < 0 || k >= knots.size()) return -1;
        Object there = knots.get(k).below[output];
        if (there == null) return -3;
        return there instanceof Knot knot ? 100 + knots.indexOf(knot) : (Integer) there;
    }

    public int sift(long word) {
        String w = wordOf(word);
        if (w == null || w.length() > 15) return -1;
        if (method != 3) return -2;
        Object there = siftWord(w);
        if (there == null) return -3;
        tellRow(met);
        return (Integer) there;
    }

    // the guess

    private boolean noState(int s) {
        return s < 0 || s > 7 || (guess != null && s >= guess.n());
    }

    public int guessed(int s, int what) {
        if (noState(s) || what < 0 || what > mill.l) return -1;
        return guess == null ? -2 : guess.look(s, what);
    }

    public long access(int s) {
        if (noState(s)) return -1;
        return guess == null ? -2 : code(guess.access.get(s));
    }

    public int reads(long word) {
        String w = wordOf(word);
        if (w == null) return -1;
        if (guess == null) return -2;
        tellRow(guess.answer(0, w));
        return guess.end(0, w);
    }

    public long errs() {
        return guess == null ? -2 : codeOrZero(firstUnlike(guess, 0, mill, 0));
    }

    public int wrong(int k) {
        if (k < 0 || k > 8) return -1;
        if (guess == null) return -2;
        List<String> words = upTo(k, mill.l);
        int unlike = 0;
        for (String w : words) {
            if (guess.answer(0, w) != mill.answer(0, w)) unlike++;
        }
        tellRow(words.size());
        return unlike;
    }

    private TreeSet<String> testWords(int k) {
        TreeSet<String> ps = new TreeSet<>(ORDER);
        TreeSet<String> es = new TreeSet<>(ORDER);
        for (int s = 0; s < guess.n(); s++) {
            String first = firstTo(guess, s);
            if (first == null) continue;
            ps.add(first);
            for (int x = 0; x < mill.l; x++) ps.add(first + x);
            for (int t = 0; t < guess.n(); t++) {
                String e = firstUnlike(guess, s, guess, t);
                if (e != null) es.add(e);
            }
        }
        if (es.isEmpty()) es.add("");
        TreeSet<String> all = new TreeSet<>(ORDER);
        for (String p : ps) {
            for (String m : upTo(k, mill.l)) {
                for (String e : es) all.add(p + m + e);
            }
        }
        return all;
    }

    public int tests(int k) {
        if (k < 0 || k > 2) return -1;
        if (guess == null) return -2;
        TreeSet<String> all = testWords(k);
        int letters = 0;
        int known = 0;
        for (String w : all) {
            letters += w.length();
            if (asked.containsKey(w)) known++;
        }
        tellRow(letters, all.last().length(), known);
        return all.size();
    }

    public long passes(int k) {
        if (k < 0 || k > 2) return -1;
        if (guess == null) return -2;
        for (String w : testWords(k)) {
            if (guess.answer(0, w) != mill.answer(0, w)) return code(w);
        }
        return 0;
    }

    public long parted(int p, int q) {
        if (noState(p) || noState(q)) return -1;
        return guess == null ? -2 : codeOrZero(firstUnlike(guess, p, guess, q));
    }

    // the machine, looked into

    public long like(int p, int q) {
        if (p < 0 || p >= mill.n() || q < 0 || q >= mill.n()) return -1;
        return codeOrZero(firstUnlike(mill, p, mill, q));
    }

    private int leastLike(int s) {
        for (int t = 0; t < s; t++) {
            if (firstUnlike(mill, s, mill, t) == null) return t;
        }
        return s;
    }

    private int unlikeReached() {
        Set<Integer> unlike = new HashSet<>();
        for (int s = 0; s < mill.n(); s++) {
            if (firstTo(mill, s) != null) unlike.add(leastLike(s));
        }
        return unlike.size();
    }

    public int least() {
        long[] told = new long[mill.n()];
        for (int s = 0; s < mill.n(); s++) told[s] = leastLike(s);
        tellRow(told);
        return unlikeReached();
    }

    public long reach(int s) {
        return s < 0 || s >= mill.n() ? -1 : codeOrZero(firstTo(mill, s));
    }

    public int groups(int k) {
        if (k < 0 || k > 7) return -1;
        List<String> answers = new ArrayList<>();
        for (int s = 0; s < mill.n(); s++) {
            StringBuilder all = new StringBuilder();
            for (String w : upTo(k, mill.l)) all.append(mill.answer(s, w));
            answers.add(all.toString());
        }
        long[] told = new long[mill.n()];
        for (int s = 0; s < mill.n(); s++) told[s] = answers.indexOf(answers.get(s));
        tellRow(told);
        return new HashSet<>(answers).size();
    }

    private SlowPupil inThought(int m) {
        SlowPupil other = new SlowPupil();
        other.mill = mill;
        other.prices(start, stepPrice);
        other.method(m);
        return other;
    }

    public int costs(int m) {
        if (m < 0 || m > 3) return -1;
        SlowPupil other = inThought(m);
        int steps = other.learn();
        tellRow(other.asked.size(), other.lessons, steps, other.heads.size(), other.tails.size());
        return other.cost;
    }

    public int cheapest() {
        long[] told = new long[4];
        int best = 0;
        for (int m = 0; m < 4; m++) {
            SlowPupil other = inThought(m);
            other.learn();
            told[m] = other.cost;
            if (told[m] < told[best]) best = m;
        }
        tellRow(told);
        return best;
    }

    public int count(int what) {
        return switch (what) {
            case 0 -> method;
            case 1 -> mill.l;
            case 2 -> mill.n();
            case 3 -> asked.size();
            case 4 -> cost;
            case 5 -> lessons;
            case 6 -> guess == null ? -1 : guess.n();
            case 7 -> numbers.size();
            case 8 -> text.length();
            case 9 -> start;
            case 10 -> stepPrice;
            default -> -1;
        };
    }

    public long row(int i) throws NoSuchElementException {
        if (i < 0 || i >= numbers.size()) throw new NoSuchElementException();
        return numbers.get(i);
    }
}
