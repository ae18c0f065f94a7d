import java.util.Arrays;
import java.util.NoSuchElementException;

/**
 * Machines learnt by asking. One object holds a MACHINE and a PUPIL who finds it out by asking
 * words; ../shared/DOC.md tells what each call answers, and its words in capitals stand for the
 * same things here. WORDS are told and kept as their CODES.
 */
public final class AskingPupil {
    public static final int NONE = -1;

    private static final int NO_GUESS = -2;
    private static final int OTHER_METHOD = -2;
    private static final int ALIKE = -3;
    private static final int NOT_ASKED = -3;
    private static final int NOTHING_THERE = -3;
    private static final int NOT_TOLD = -100;
    private static final int MISPLACED = -21;

    private static final int MOST_STATES = 8;
    private static final int MOST_LETTERS = 3;
    private static final int MOST_OUTPUTS = 4;
    private static final int MOST_SIGNS = 64;
    private static final int METHODS = 4;
    private static final int TREE_METHOD = 3;
    private static final int LONGEST_WORD = 30;
    private static final int LONGEST_LESSON = 14;
    private static final int LONGEST_SIFTED = 15;
    private static final int LAST_WORD = 1000000;
    private static final int HIGHEST_PRICE = 99;
    private static final int MOST_COUNTED = 8;
    private static final int MOST_ROUNDS = 7;
    private static final int MOST_BEHIND = 2;
    private static final long EMPTY_WORD = 1;
    /** What lies at a KNOT is a LEAF's number, or this and a KNOT's. */
    private static final int KNOT = 100;
    /** More HEADS or TAILS than 7 LESSONS of 14 LETTERS and 8 unlike STATES can bring. */
    private static final int MOST_NOTED = 128;
    /** More STEPS and LESSONS than any MACHINE takes to be learnt. */
    private static final int MOST_MOVES = 10000;

    private final Machine told = new Machine();
    private final Machine draft = new Machine();
    private final Text text = new Text();
    private final Search search = new Search();
    private final Pupil pupil = new Pupil(told, search);
    private final Pupil thought = new Pupil(told, search);
    private final WordSet trials = new WordSet();
    private final WordList partings = new WordList(MOST_STATES);
    private final int[] group = new int[MOST_STATES];
    private final long[] numbers = new long[MOST_STATES];
    private int numbersTold;

    public AskingPupil() {
        pupil.renew(0);
    }

    // ---- the machine

    public int sign(int v) {
        return text.append(v);
    }

    public boolean end(int n) {
        return text.shorten(n);
    }

    public int machine() {
        int states = text.read(draft);
        text.shorten(0);
        if (states < 0) return states;
        if (!draft.isClosed()) return NOT_TOLD;
        told.become(draft);
        pupil.renew(pupil.method);
        return states;
    }

    public int draws(int seed, int n, int l, int outputs) {
        if (n < 1 || n > MOST_STATES || l < 1 || l > MOST_LETTERS) return NONE;
        if (outputs < 1 || outputs > MOST_OUTPUTS) return NONE;
        told.draw(seed, n, l, outputs);
        pupil.renew(pupil.method);
        return unlikeReached();
    }

    public int state(int s, int what) {
        return told.look(s, what);
    }

    public int run(long word) {
        return isNoWord(word) ? NONE : told.endFrom(0, word);
    }

    // ---- words

    public long joins(long one, long other) {
        if (isNoWord(one) || isNoWord(other)) return NONE;
        return Codes.join(one, other);
    }

    public int letter(long word, int i) {
        int length = Codes.measure(word, told.letters);
        if (length < 0 || i == NONE) return length;
        return i < 0 || i >= length ? NONE : Codes.at(word, i);
    }

    public long cut(long word, int n) {
        int length = Codes.measure(word, told.letters);
        if (length < 0 || n > length || n < -length) return NONE;
        return n < 0 ? Codes.behind(word, -n) : Codes.first(word, n);
    }

    public long word(int k) {
        return k < 0 || k > LAST_WORD ? NONE : Codes.kth(k, told.letters);
    }

    // ---- the pupil

    public boolean prices(int start, int step) {
        if (start < 0 || start > HIGHEST_PRICE || step < 0 || step > HIGHEST_PRICE) return false;
        pupil.asking.charge(start, step);
        thought.asking.charge(start, step);
        return true;
    }

    public int method(int m) {
        if (m < 0 || m >= METHODS) return NONE;
        int before = pupil.method;
        pupil.renew(m);
        return before;
    }

    public int asks(long word) {
        return isNoWord(word) ? NONE : pupil.asking.ask(word);
    }

    public int known(long word) {
        if (isNoWord(word)) return NONE;
        return pupil.asking.words.has(word) ? 1 : 0;
    }

    public int step() {
        Notes notes = pupil.notes;
        if (notes.hasGuess()) return NO_GUESS;
        int before = pupil.asking.words.size;
        int done = notes.advance();
        clearNumbers();
        put(pupil.asking.words.size - before);
        if (done == 1) put(notes.heads.last());
        if (done == 2) put(notes.tails.last());
        return done;
    }

    public int guess() {
        Notes notes = pupil.notes;
        int steps = 0;
        while (!notes.hasGuess() && steps < MOST_MOVES) {
            notes.advance();
            steps++;
        }
        clearNumbers();
        put(steps);
        return notes.guess.states;
    }

    public int tells(long word) {
        int length = Codes.measure(word, told.letters);
        if (length < 0 || length > LONGEST_LESSON) return NONE;
        Notes notes = pupil.notes;
        if (!notes.hasGuess()) return NO_GUESS;
        if (notes.guess.answer(word) == told.answer(word)) return ALIKE;
        return notes.lesson(word);
    }

    public int learns() {
        pupil.learn();
        clearNumbers();
        put(pupil.steps);
        put(pupil.notes.lessons);
        return pupil.notes.guess.states;
    }

    public long head(int k) {
        return k == NONE ? pupil.notes.heads.size : pupil.notes.heads.get(k);
    }

    public long tail(int k) {
        return k == NONE ? pupil.notes.tails.size : pupil.notes.tails.get(k);
    }

    public int cell(int k, int x, int e) {
        long head = pupil.notes.heads.get(k);
        long tail = pupil.notes.tails.get(e);
        if (head == NONE || tail == NONE || x < NONE || x >= told.letters) return NONE;
        if (pupil.method == TREE_METHOD) return OTHER_METHOD;
        long word = Codes.join(x == NONE ? head : Codes.then(head, x), tail);
        return pupil.asking.words.has(word) ? told.answer(word) : NOT_ASKED;
    }

    public int lines() {
        if (pupil.method == TREE_METHOD) return OTHER_METHOD;
        Table table = pupil.table;
        if (!table.isFull()) return NOT_ASKED;
        table.findLines();
        int unlike = table.unlikeLines();
        clearNumbers();
        put(table.heads.size - unlike);
        put(table.openWords());
        return unlike;
    }

    public int knot(int k, int output) {
        if (output < 0 || output >= MOST_OUTPUTS) return NONE;
        if (pupil.method != TREE_METHOD) return OTHER_METHOD;
        if (k < 0 || k >= pupil.notes.tails.size) return NONE;
        int link = pupil.tree.linkAt(k * MOST_OUTPUTS + output);
        return link == NONE ? NOTHING_THERE : link;
    }

    public int sift(long word) {
        int length = Codes.measure(word, told.letters);
        if (length < 0 || length > LONGEST_SIFTED) return NONE;
        if (pupil.method != TREE_METHOD) return OTHER_METHOD;
        int leaf = pupil.tree.descend(word);
        if (leaf == NONE) return NOTHING_THERE;
        clearNumbers();
        put(pupil.tree.met);
        return leaf;
    }

    // ---- the guess (-2: there is none; of STATES those below 0 and those above 7 alone are none such then)

    public int guessed(int s, int what) {
        if (what < 0 || what > told.letters) return NONE;
        int refusal = refuseGuessed(s);
        return refusal < 0 ? refusal : pupil.notes.guess.look(s, what);
    }

    public long access(int s) {
        int refusal = refuseGuessed(s);
        return refusal < 0 ? refusal : pupil.notes.access.get(s);
    }

    public int reads(long word) {
        if (isNoWord(word)) return NONE;
        Notes notes = pupil.notes;
        if (!notes.hasGuess()) return NO_GUESS;
        int s = notes.guess.endFrom(0, word);
        clearNumbers();
        put(notes.guess.outputOf(s));
        return s;
    }

    public long errs() {
        Notes notes = pupil.notes;
        return notes.hasGuess() ? search.firstUnlike(notes.guess, 0, told, 0) : NO_GUESS;
    }

    public int wrong(int k) {
        if (k < 0 || k > MOST_COUNTED) return NONE;
        Notes notes = pupil.notes;
        if (!notes.hasGuess()) return NO_GUESS;
        int unlike = search.countUnlike(notes.guess, told, k);
        clearNumbers();
        put(Codes.countUpTo(k, told.letters));
        return unlike;
    }

    public int tests(int k) {
        if (k < 0 || k > MOST_BEHIND) return NONE;
        if (!pupil.notes.hasGuess()) return NO_GUESS;
        gatherTrials(k);
        int letters = 0;
        int longest = 0;
        int asked = 0;
        for (int i = 0; i < trials.places(); i++) {
            long word = trials.at(i);
            if (word == 0) continue;
            int length = Codes.length(word);
            letters += length;
            longest = Math.max(longest, length);
            if (pupil.asking.words.has(word)) asked++;
        }
        clearNumbers();
        put(letters);
        put(longest);
        put(asked);
        return trials.size;
    }

    public long passes(int k) {
        if (k < 0 || k > MOST_BEHIND) return NONE;
        Notes notes = pupil.notes;
        if (!notes.hasGuess()) return NO_GUESS;
        gatherTrials(k);
        long least = 0;
        // The lesser of two CODES is that of the WORD ahead in ORDER.
        for (int i = 0; i < trials.places(); i++) {
            long word = trials.at(i);
            if (word == 0 || (least != 0 && word > least)) continue;
            if (notes.guess.answer(word) != told.answer(word)) least = word;
        }
        return least;
    }

    public long parted(int p, int q) {
        int one = refuseGuessed(p);
        int other = refuseGuessed(q);
        if (one == NONE || other == NONE) return NONE;
        if (one < 0) return one;
        return search.firstUnlike(pupil.notes.guess, p, pupil.notes.guess, q);
    }

    // ---- the machine, looked into

    public long like(int p, int q) {
        if (p < 0 || p >= told.states || q < 0 || q >= told.states) return NONE;
        return search.firstUnlike(told, p, told, q);
    }

    public int least() {
        int unlike = unlikeReached();
        putGroups();
        return unlike;
    }

    public long reach(int s) {
        if (s < 0 || s >= told.states) return NONE;
        search.walk(told);
        return search.firstTo(s, s);
    }

    public int groups(int k) {
        if (k < 0 || k > MOST_ROUNDS) return NONE;
        int found = told.part(k, group);
        putGroups();
        return found;
    }

    public int costs(int m) {
        if (m < 0 || m >= METHODS) return NONE;
        thought.renew(m);
        thought.learn();
        clearNumbers();
        put(thought.asking.words.size);
        put(thought.notes.lessons);
        put(thought.steps);
        put(thought.notes.heads.size);
        put(thought.notes.tails.size);
        return thought.asking.cost;
    }

    public int cheapest() {
        int best = 0;
        int least = 0;
        clearNumbers();
        for (int m = 0; m < METHODS; m++) {
            thought.renew(m);
            thought.learn();
            int cost = thought.asking.cost;
            put(cost);
            if (m == 0 || cost < least) {
                best = m;
                least = cost;
            }
        }
        return best;
    }

    public int count(int what) {
        switch (what) {
            case 0: return pupil.method;
            case 1: return told.letters;
            case 2: return told.states;
            case 3: return pupil.asking.words.size;
            case 4: return pupil.asking.cost;
            case 5: return pupil.notes.lessons;
            case 6: return pupil.notes.hasGuess() ? pupil.notes.guess.states : NONE;
            case 7: return numbersTold;
            case 8: return text.size;
            case 9: return pupil.asking.start;
            case 10: return pupil.asking.perLetter;
            default: return NONE;
        }
    }

    public long row(int i) throws NoSuchElementException {
        if (i < 0 || i >= numbersTold || i >= numbers.length) throw new NoSuchElementException();
        return numbers[i];
    }

    // ---- helpers of the face

    private void clearNumbers() {
        numbersTold = 0;
    }

    private void put(long number) {
        if (numbersTold < numbers.length) numbers[numbersTold++] = number;
    }

    private void putGroups() {
        clearNumbers();
        for (int s = 0; s < told.states && s < group.length; s++) put(group[s]);
    }

    private boolean isNoWord(long word) {
        return Codes.measure(word, told.letters) < 0;
    }

    /** 0: s is a STATE of GUESS; else what a call that asks for it answers. */
    private int refuseGuessed(int s) {
        if (s < 0 || s >= MOST_STATES) return NONE;
        if (!pupil.notes.hasGuess()) return NO_GUESS;
        return s < pupil.notes.guess.states ? 0 : NONE;
    }

    /** How many groups of like STATES some WORD comes to; group[] tells them afterwards. */
    private int unlikeReached() {
        told.part(MOST_ROUNDS, group);
        search.walk(told);
        int unlike = 0;
        for (int g = 0; g < told.states; g++) {
            if (isGroupReached(g)) unlike++;
        }
        return unlike;
    }

    private boolean isGroupReached(int g) {
        for (int s = 0; s < told.states && s < group.length; s++) {
            if (group[s] == g && search.firstTo(s, s) != 0) return true;
        }
        return false;
    }

    /** TESTS of k of the GUESS. */
    private void gatherTrials(int k) {
        Machine guess = pupil.notes.guess;
        gatherPartings(guess);
        trials.clear();
        search.walk(guess);
        // At most a LETTER behind a first WORD, and k behind that: at most k + 1.
        int middles = Codes.countUpTo(k + 1, guess.letters);
        for (int s = 0; s < guess.states; s++) {
            long first = search.firstTo(s, s);
            for (int j = 0; j < middles && first != 0; j++) {
                addTrials(Codes.join(first, Codes.kth(j, guess.letters)));
            }
        }
    }

    private void addTrials(long beginning) {
        for (int i = 0; i < partings.size; i++) {
            trials.makeRoom();
            trials.add(Codes.join(beginning, partings.get(i)));
        }
    }

    private void gatherPartings(Machine guess) {
        partings.clear();
        for (int p = 0; p < guess.states; p++) {
            for (int q = p + 1; q < guess.states; q++) {
                long word = search.firstUnlike(guess, p, guess, q);
                if (word != 0 && !partings.has(word)) partings.add(word);
            }
        }
        if (partings.size == 0) partings.add(EMPTY_WORD);
    }

    /** What can be said of a WORD by its CODE alone. */
    private static final class Codes {

        /** How many LETTERS the WORD has; NONE: it is no CODE of at most 30 of the first LETTERS. */
        static int measure(long word, int letters) {
            long rest = word;
            for (int n = 0; n <= LONGEST_WORD; n++) {
                if (rest == 1) return n;
                if (rest < 1 || (rest & 3) >= letters) return NONE;
                rest >>= 2;
            }
            return NONE;
        }

        static int length(long word) {
            long rest = word;
            for (int n = 0; n < LONGEST_WORD; n++) {
                if (rest <= 1) return n;
                rest >>= 2;
            }
            return LONGEST_WORD;
        }

        static int at(long word, int i) {
            int behind = length(word) - 1 - i;
            return i < 0 || behind < 0 ? NONE : (int) (word >> (2 * behind)) & 3;
        }

        static long then(long word, int x) {
            return 4 * word + x;
        }

        /** NONE: it would be too long. */
        static long join(long one, long other) {
            int n = length(other);
            if (length(one) + n > LONGEST_WORD) return NONE;
            long mark = 1L << (2 * n);
            return one * mark + (other - mark);
        }

        static long first(long word, int n) {
            int behind = length(word) - n;
            return n < 0 || behind < 0 ? NONE : word >> (2 * behind);
        }

        static long behind(long word, int n) {
            int rest = length(word) - n;
            if (n < 0 || rest < 0) return NONE;
            long mark = 1L << (2 * rest);
            return mark + (word & (mark - 1));
        }

        /** How many WORDS have at most k LETTERS, for a small k. */
        static int countUpTo(int k, int letters) {
            int all = 0;
            int power = 1;
            for (int n = 0; n <= k; n++) {
                all += power;
                power *= letters;
            }
            return all;
        }

        static long kth(int k, int letters) {
            long before = k;
            long power = 1;
            for (int n = 0; n <= LONGEST_WORD; n++) {
                if (before < power) return numbered(before, n, letters);
                before -= power;
                power *= letters;
            }
            return NONE;
        }

        /** The WORD of n LETTERS whose LETTERS are the digits of a number. */
        private static long numbered(long number, int n, int letters) {
            if (letters < 1) return NONE;
            long rest = number;
            long word = 1L << (2 * n);
            for (int i = 0; i < n; i++) {
                word += (rest % letters) << (2 * i);
                rest /= letters;
            }
            return word;
        }
    }

    /** The MACHINE, or a GUESS; one without STATES stands for none. */
    private static final class Machine {
        int states = 1;
        int letters = 1;
        private final int[] outputs = new int[MOST_STATES];
        private final int[] nexts = new int[MOST_STATES * MOST_LETTERS];
        private final int[] before = new int[MOST_STATES];

        void shape(int newStates, int newLetters) {
            states = newStates;
            letters = newLetters;
        }

        void setOutput(int s, int output) {
            if (s >= 0 && s < outputs.length) outputs[s] = output;
        }

        void setNext(int s, int x, int t) {
            int place = s * MOST_LETTERS + x;
            if (x >= 0 && x < MOST_LETTERS && place >= 0 && place < nexts.length) nexts[place] = t;
        }

        int outputOf(int s) {
            return s < 0 || s >= states || s >= outputs.length ? NONE : outputs[s];
        }

        int nextOf(int s, int x) {
            if (s < 0 || s >= states || x < 0 || x >= letters) return NONE;
            int place = s * MOST_LETTERS + x;
            return place < nexts.length ? nexts[place] : NONE;
        }

        /** What 0: the OUTPUT of a STATE, 1 and x: the STATE that comes by LETTER x. */
        int look(int s, int what) {
            return what == 0 ? outputOf(s) : nextOf(s, what - 1);
        }

        int endFrom(int s, long word) {
            int end = s;
            for (int shift = 2 * Codes.length(word) - 2; shift >= 0; shift -= 2) {
                end = nextOf(end, (int) (word >> shift) & 3);
            }
            return end;
        }

        int answer(long word) {
            return outputOf(endFrom(0, word));
        }

        /** Whether all STATES that come are there. */
        boolean isClosed() {
            for (int s = 0; s < states; s++) {
                for (int x = 0; x < letters; x++) {
                    if (nextOf(s, x) >= states) return false;
                }
            }
            return true;
        }

        void become(Machine other) {
            shape(other.states, other.letters);
            for (int s = 0; s < states; s++) {
                setOutput(s, other.outputOf(s));
                for (int x = 0; x < letters; x++) setNext(s, x, other.nextOf(s, x));
            }
        }

        void draw(int seed, int n, int l, int kinds) {
            shape(n, l);
            int r = seed;
            for (int s = 0; s < n; s++) {
                r = stir(r);
                setOutput(s, drawn(r, kinds));
                for (int x = 0; x < l; x++) {
                    r = stir(r);
                    setNext(s, x, drawn(r, n));
                }
            }
        }

        private static int stir(int r) {
            return r * 1103515245 + 12345;
        }

        private static int drawn(int r, int n) {
            return n < 1 ? 0 : (r >>> 16) % n;
        }

        /** Puts the least STATE of each one's group by WORDS of at most so many LETTERS; how many groups. */
        int part(int rounds, int[] group) {
            // A round more than LETTERS: the first parts by OUTPUT alone.
            for (int round = 0; round <= rounds; round++) {
                for (int s = 0; s < states && s < group.length; s++) group[s] = leastAlike(s, round > 0);
                for (int s = 0; s < states && s < group.length && s < before.length; s++) before[s] = group[s];
            }
            int groups = 0;
            for (int s = 0; s < states && s < group.length; s++) {
                if (group[s] == s) groups++;
            }
            return groups;
        }

        private int leastAlike(int s, boolean byNexts) {
            for (int t = 0; t < s; t++) {
                if (outputOf(t) == outputOf(s) && (!byNexts || nextsAlike(t, s))) return t;
            }
            return s;
        }

        private boolean nextsAlike(int s, int t) {
            for (int x = 0; x < letters; x++) {
                if (groupBefore(nextOf(s, x)) != groupBefore(nextOf(t, x))) return false;
            }
            return true;
        }

        private int groupBefore(int s) {
            return s < 0 || s >= before.length ? NONE : before[s];
        }
    }

    /** THE TEXT. */
    private static final class Text {
        int size;
        private final int[] signs = new int[MOST_SIGNS];
        /** Where the reading stands. */
        private int at;

        int append(int four) {
            if (size + 4 > signs.length) return NONE;
            for (int shift = 24; shift >= 0; shift -= 8) signs[size++] = (four >>> shift) & 255;
            return size;
        }

        boolean shorten(int n) {
            if (n < 0 || n > size) return false;
            size = n;
            return true;
        }

        /** Reads a MACHINE into the draft: how many STATES, or where a sign can't stand. */
        int read(Machine draft) {
            at = 0;
            for (int s = 0; s < MOST_STATES; s++) {
                if (!readState(draft, s)) return MISPLACED - at;
                draft.shape(s + 1, draft.letters);
                if (at == size) return draft.states;
                if (s + 1 == MOST_STATES || !takes(';')) return MISPLACED - at;
            }
            return MISPLACED - at;
        }

        /** The first STATE tells how many LETTERS there are. */
        private boolean readState(Machine draft, int s) {
            int output = digitBelow(MOST_OUTPUTS);
            if (output < 0) return false;
            draft.setOutput(s, output);
            if (!takes(':')) return false;
            for (int x = 0; x < MOST_LETTERS; x++) {
                int next = digitBelow(MOST_STATES);
                if (next < 0) return false;
                draft.setNext(s, x, next);
                if (s == 0) draft.shape(0, x + 1);
                boolean last = s == 0 ? x + 1 == MOST_LETTERS || signHere() != ',' : x + 1 == draft.letters;
                if (last) return true;
                if (!takes(',')) return false;
            }
            return false;
        }

        private int signHere() {
            return at < size && at < signs.length ? signs[at] : NONE;
        }

        private boolean takes(char due) {
            if (signHere() != due) return false;
            at++;
            return true;
        }

        private int digitBelow(int bound) {
            int digit = signHere() - '0';
            if (digit < 0 || digit >= bound) return NONE;
            at++;
            return digit;
        }
    }

    /** WORDS kept in the order in which they came, up to a bound. */
    private static final class WordList {
        int size;
        private final long[] words;

        WordList(int most) {
            words = new long[most < 0 ? 0 : most];
        }

        void clear() {
            size = 0;
        }

        void add(long word) {
            if (size < words.length) words[size++] = word;
        }

        long get(int k) {
            return k < 0 || k >= size || k >= words.length ? NONE : words[k];
        }

        long last() {
            return get(size - 1);
        }

        int indexOf(long word) {
            for (int k = 0; k < size && k < words.length; k++) {
                if (words[k] == word) return k;
            }
            return NONE;
        }

        boolean has(long word) {
            return indexOf(word) != NONE;
        }
    }

    /** Unlike WORDS, found by scattering; a place without one holds 0. */
    private static final class WordSet {
        private static final int FIRST_PLACES = 256;
        private static final int MOST_PLACES = 16384;
        private static final long SCATTER = 0x5851F42D4C957F2DL;
        int size;
        private long[] slots = new long[FIRST_PLACES];

        void clear() {
            if (size > 0) Arrays.fill(slots, 0L);
            size = 0;
        }

        int places() {
            return slots.length;
        }

        long at(int place) {
            return place < 0 || place >= slots.length ? 0 : slots[place];
        }

        boolean has(long word) {
            return word > 0 && at(placeOf(word)) == word;
        }

        /** Whether the WORD is new; makeRoom() is called ahead of it. */
        boolean add(long word) {
            int place = placeOf(word);
            if (word < 1 || place < 0 || place >= slots.length || slots[place] == word) return false;
            slots[place] = word;
            size++;
            return true;
        }

        /** Keeps half of the places free, so that few WORDS meet at one. */
        void makeRoom() {
            if (2 * size < slots.length || slots.length >= MOST_PLACES) return;
            long[] old = slots;
            slots = new long[2 * old.length];
            for (int i = 0; i < old.length; i++) {
                int place = placeOf(old[i]);
                if (old[i] != 0 && place >= 0 && place < slots.length) slots[place] = old[i];
            }
        }

        /** Where the WORD lies, or could be laid; NONE: nowhere. */
        private int placeOf(long word) {
            int start = (int) ((word * SCATTER) >>> 40);
            for (int i = 0; i < slots.length; i++) {
                int place = (start + i) & (slots.length - 1);
                if (place < 0 || place >= slots.length) return NONE;
                if (slots[place] == word || slots[place] == 0) return place;
            }
            return NONE;
        }
    }

    /** Two machines run side by side by all WORDS, the first in ORDER ahead. */
    private static final class Search {
        private static final int PAIRS = MOST_STATES * MOST_STATES;
        /** 14 LETTERS tell apart any two of 16 STATES that can be told apart: longer WORDS need no look. */
        private static final long FAR = 1L << 30;
        /** By pairs of STATES the first WORD that comes to them; 0: none did. */
        private final long[] firsts = new long[PAIRS];
        private final int[] queue = new int[PAIRS];
        private int queued;
        private int[] ways = new int[PAIRS];
        private int[] waysNext = new int[PAIRS];

        /** CODE of the first WORD by which one from p on and other from q on answer unlike; 0: none. */
        long firstUnlike(Machine one, int p, Machine other, int q) {
            Arrays.fill(firsts, 0L);
            queued = 0;
            comeTo(p, q, EMPTY_WORD);
            for (int i = 0; i < queued && i < queue.length; i++) {
                int pair = queue[i];
                int s = pair / MOST_STATES;
                int t = pair % MOST_STATES;
                long word = firstTo(s, t);
                if (one.outputOf(s) != other.outputOf(t)) return word;
                for (int x = 0; x < one.letters && word < FAR; x++) {
                    comeTo(one.nextOf(s, x), other.nextOf(t, x), Codes.then(word, x));
                }
            }
            return 0;
        }

        /** Finds the first WORD to each STATE: the machine beside itself never answers unlike. */
        void walk(Machine machine) {
            firstUnlike(machine, 0, machine, 0);
        }

        long firstTo(int p, int q) {
            int pair = pairOf(p, q);
            return pair < 0 || pair >= firsts.length ? 0 : firsts[pair];
        }

        private void comeTo(int p, int q, long word) {
            int pair = pairOf(p, q);
            if (pair < 0 || pair >= firsts.length || firsts[pair] != 0) return;
            firsts[pair] = word;
            if (queued < queue.length) queue[queued++] = pair;
        }

        private static int pairOf(int p, int q) {
            if (p < 0 || p >= MOST_STATES || q < 0 || q >= MOST_STATES) return NONE;
            return p * MOST_STATES + q;
        }

        /** How many WORDS of at most k LETTERS the two answer unlike. */
        int countUnlike(Machine one, Machine other, int k) {
            // The one WORD of no LETTERS leaves both in STATE 0.
            for (int pair = 0; pair < ways.length; pair++) ways[pair] = pair == 0 ? 1 : 0;
            int unlike = 0;
            for (int n = 0; n <= k; n++) {
                unlike += unlikeWays(one, other);
                goOn(one, other);
            }
            return unlike;
        }

        private int unlikeWays(Machine one, Machine other) {
            int unlike = 0;
            for (int pair = 0; pair < ways.length; pair++) {
                if (one.outputOf(pair / MOST_STATES) != other.outputOf(pair % MOST_STATES)) unlike += ways[pair];
            }
            return unlike;
        }

        /** A LETTER more: ways[] tells of how many WORDS of that length each pair is the END. */
        private void goOn(Machine one, Machine other) {
            Arrays.fill(waysNext, 0);
            for (int pair = 0; pair < ways.length; pair++) {
                for (int x = 0; x < one.letters && ways[pair] > 0; x++) {
                    int next = pairOf(one.nextOf(pair / MOST_STATES, x), other.nextOf(pair % MOST_STATES, x));
                    if (next >= 0 && next < waysNext.length) waysNext[next] += ways[pair];
                }
            }
            int[] free = ways;
            ways = waysNext;
            waysNext = free;
        }
    }

    /** What was ASKED, and its COST. */
    private static final class Asking {
        final Machine machine;
        final WordSet words = new WordSet();
        int start = 1;
        int perLetter = 1;
        int cost;

        Asking(Machine machine) {
            this.machine = machine;
        }

        void charge(int newStart, int newPerLetter) {
            start = newStart;
            perLetter = newPerLetter;
        }

        void forget() {
            words.clear();
            cost = 0;
        }

        int ask(long word) {
            words.makeRoom();
            if (words.add(word)) cost += start + perLetter * Codes.length(word);
            return machine.outputOf(machine.endFrom(0, word));
        }
    }

    /** HEADS and TAILS, and the GUESS that comes of them. */
    private abstract static class Notes {
        final Asking asking;
        final WordList heads = new WordList(MOST_NOTED);
        final WordList tails = new WordList(MOST_NOTED);
        final WordList access = new WordList(MOST_STATES);
        final Machine guess = new Machine();
        int method;
        int lessons;

        Notes(Asking asking) {
            this.asking = asking;
        }

        /** A STEP: 0, 1, 2. */
        abstract int advance();

        /** A LESSON of a WORD that GUESS answers wrongly: how many HEADS and TAILS came. */
        abstract int lesson(long word);

        /** What else is NEW when the first HEAD and the first TAIL are there. */
        abstract void begin();

        final void renew(int newMethod) {
            method = newMethod;
            lessons = 0;
            heads.clear();
            heads.add(EMPTY_WORD);
            tails.clear();
            tails.add(EMPTY_WORD);
            dropGuess();
            begin();
        }

        final boolean hasGuess() {
            return guess.states > 0;
        }

        final void dropGuess() {
            guess.shape(0, 0);
            access.clear();
        }

        /** There is a GUESS from here on: ACCESS and the STATES that come were set before. */
        final void settle() {
            guess.shape(access.size, asking.machine.letters);
            for (int s = 0; s < access.size; s++) guess.setOutput(s, asking.ask(access.get(s)));
        }

        final long accessBy(long word) {
            return access.get(guess.endFrom(0, word));
        }

        /** high, behind the LETTER of a wrongly answered WORD by which GUESS comes to a wrong STATE. */
        final int partingAt(long word, int answer) {
            int low = 0;
            int high = Codes.length(word);
            for (int i = 0; i < LONGEST_WORD && high > low + 1; i++) {
                int mid = (low + high) / 2;
                long u = accessBy(Codes.first(word, mid));
                if (asking.ask(Codes.join(u, Codes.behind(word, mid))) == answer) low = mid;
                else high = mid;
            }
            return high;
        }
    }

    /** The TABLE of METHODS 0, 1 and 2. */
    private static final class Table extends Notes {
        /** All w e and w x e of so many HEADS and TAILS were ASKED by STEPS. */
        private int filledHeads;
        private int filledTails;
        /** By STATES of the MACHINE the least one from which all TAILS are answered alike. */
        private final int[] line = new int[MOST_STATES];
        private final int[] lineBefore = new int[MOST_STATES];
        private final int[] answers = new int[MOST_STATES];
        /** By STATES of the MACHINE the first HEAD with the LINE of WORDS that END there; NONE: none. */
        private final int[] firstHead = new int[MOST_STATES];
        /** By HEADS the STATE of the MACHINE that is its END. */
        private final int[] ends = new int[MOST_NOTED];

        Table(Asking asking) {
            super(asking);
        }

        void begin() {
            filledHeads = 0;
            filledTails = 0;
        }

        int advance() {
            askAll();
            findLines();
            if (headComes()) return 1;
            if (method == 0 && tailComes()) return 2;
            joinStates();
            settle();
            return 0;
        }

        int lesson(long word) {
            int before = heads.size + tails.size;
            int answer = asking.ask(word);
            lessons++;
            if (method == 0) noteBeginnings(word);
            else if (method == 1) noteEnds(word);
            else tails.add(Codes.behind(word, partingAt(word, answer)));
            dropGuess();
            return heads.size + tails.size - before;
        }

        private void noteBeginnings(long word) {
            int length = Codes.length(word);
            for (int n = 0; n <= length; n++) {
                long beginning = Codes.first(word, n);
                if (!heads.has(beginning)) heads.add(beginning);
            }
        }

        private void noteEnds(long word) {
            for (int n = Codes.length(word); n >= 0; n--) {
                long end = Codes.behind(word, n);
                if (!tails.has(end)) tails.add(end);
            }
        }

        private void askAll() {
            for (int h = 0; h < heads.size; h++) {
                for (int x = NONE; x < asking.machine.letters; x++) {
                    long word = rowWord(h, x);
                    for (int e = firstUnfilled(h); e < tails.size; e++) asking.ask(Codes.join(word, tails.get(e)));
                }
            }
            filledHeads = heads.size;
            filledTails = tails.size;
        }

        boolean isFull() {
            for (int h = 0; h < heads.size; h++) {
                for (int x = NONE; x < asking.machine.letters; x++) {
                    if (!isAsked(rowWord(h, x), firstUnfilled(h))) return false;
                }
            }
            return true;
        }

        private boolean isAsked(long word, int firstTail) {
            for (int e = firstTail; e < tails.size; e++) {
                if (!asking.words.has(Codes.join(word, tails.get(e)))) return false;
            }
            return true;
        }

        private long rowWord(int h, int x) {
            return x == NONE ? heads.get(h) : Codes.then(heads.get(h), x);
        }

        private int firstUnfilled(int h) {
            return h < filledHeads ? filledTails : 0;
        }

        /** The LINE of a WORD hangs on its END in the MACHINE alone, so LINES are found by STATES. */
        void findLines() {
            Arrays.fill(line, 0);
            for (int e = 0; e < tails.size; e++) splitLines(tails.get(e));
            Arrays.fill(firstHead, NONE);
            for (int h = 0; h < heads.size && h < ends.length; h++) {
                ends[h] = asking.machine.endFrom(0, heads.get(h));
                setFirstHead(lineOf(ends[h]), h);
            }
        }

        private void splitLines(long tail) {
            System.arraycopy(line, 0, lineBefore, 0, Math.min(line.length, lineBefore.length));
            for (int s = 0; s < line.length && s < answers.length; s++) {
                answers[s] = asking.machine.outputOf(asking.machine.endFrom(s, tail));
                line[s] = leastAlike(s);
            }
        }

        private int leastAlike(int s) {
            for (int t = 0; t < s && s < lineBefore.length && s < answers.length; t++) {
                if (lineBefore[t] == lineBefore[s] && answers[t] == answers[s]) return t;
            }
            return s;
        }

        private void setFirstHead(int own, int h) {
            for (int s = 0; s < firstHead.length; s++) {
                if (lineOf(s) == own && firstHead[s] == NONE) firstHead[s] = h;
            }
        }

        private int lineOf(int s) {
            return s < 0 || s >= line.length ? NONE : line[s];
        }

        private int endOf(int h) {
            return h < 0 || h >= ends.length ? NONE : ends[h];
        }

        private int headLike(int s) {
            return s < 0 || s >= firstHead.length ? NONE : firstHead[s];
        }

        private boolean isFirstOfLine(int h) {
            return headLike(endOf(h)) == h;
        }

        /** The first HEAD with the LINE of a HEAD and a LETTER. */
        private int headBehind(int h, int x) {
            return headLike(asking.machine.nextOf(endOf(h), x));
        }

        int unlikeLines() {
            int unlike = 0;
            for (int h = 0; h < heads.size; h++) {
                if (isFirstOfLine(h)) unlike++;
            }
            return unlike;
        }

        /** How many WORDS of a HEAD and a LETTER have a LINE that is no HEAD's. */
        int openWords() {
            int open = 0;
            for (int h = 0; h < heads.size; h++) {
                for (int x = 0; x < asking.machine.letters; x++) {
                    if (headBehind(h, x) == NONE) open++;
                }
            }
            return open;
        }

        private boolean headComes() {
            for (int h = 0; h < heads.size; h++) {
                for (int x = 0; x < asking.machine.letters; x++) {
                    if (headBehind(h, x) != NONE) continue;
                    heads.add(rowWord(h, x));
                    return true;
                }
            }
            return false;
        }

        private boolean tailComes() {
            for (int h = 0; h < heads.size; h++) {
                for (int other = h + 1; other < heads.size; other++) {
                    if (lineOf(endOf(h)) != lineOf(endOf(other))) continue;
                    for (int x = 0; x < asking.machine.letters; x++) {
                        int s = asking.machine.nextOf(endOf(h), x);
                        int t = asking.machine.nextOf(endOf(other), x);
                        if (lineOf(s) == lineOf(t)) continue;
                        tails.add(Codes.join(Codes.then(EMPTY_WORD, x), firstParting(s, t)));
                        return true;
                    }
                }
            }
            return false;
        }

        private long firstParting(int s, int t) {
            Machine machine = asking.machine;
            for (int e = 0; e < tails.size; e++) {
                long tail = tails.get(e);
                if (machine.outputOf(machine.endFrom(s, tail)) != machine.outputOf(machine.endFrom(t, tail))) return tail;
            }
            return EMPTY_WORD;
        }

        private void joinStates() {
            for (int h = 0; h < heads.size; h++) {
                if (isFirstOfLine(h)) access.add(heads.get(h));
            }
            for (int h = 0; h < heads.size; h++) {
                int s = access.indexOf(heads.get(h));
                for (int x = 0; x < asking.machine.letters && s != NONE; x++) {
                    guess.setNext(s, x, access.indexOf(heads.get(headBehind(h, x))));
                }
            }
        }
    }

    /** The TREE of METHOD 3: KNOTS are numbered as TAILS, LEAVES as HEADS. */
    private static final class Tree extends Notes {
        /** How many KNOTS the last SIFT met. */
        int met;
        /** By KNOTS, of each by OUTPUTS, what lies there: a LEAF, or 100 and a KNOT, or NONE. */
        private final int[] links = new int[MOST_STATES * MOST_OUTPUTS];
        /** Where the last SIFT ended. */
        private int place;

        Tree(Asking asking) {
            super(asking);
        }

        void begin() {
            Arrays.fill(links, NONE);
            link(asking.ask(EMPTY_WORD), 0);
        }

        int advance() {
            int leaves = heads.size;
            for (int a = 0; a < leaves; a++) {
                for (int x = 0; x < asking.machine.letters; x++) {
                    long word = Codes.then(heads.get(a), x);
                    int leaf = descend(word);
                    if (leaf == NONE) {
                        addLeaf(place, word);
                        return 1;
                    }
                    guess.setNext(a, x, leaf);
                }
            }
            for (int a = 0; a < leaves; a++) access.add(heads.get(a));
            settle();
            return 0;
        }

        int lesson(long word) {
            int high = partingAt(word, asking.ask(word));
            long tail = Codes.behind(word, high);
            int leaf = guess.endFrom(0, Codes.first(word, high));
            long head = Codes.then(accessBy(Codes.first(word, high - 1)), Codes.at(word, high - 1));
            lessons++;
            dropGuess();
            putKnot(leaf, tail, head);
            return 2;
        }

        /** The LEAF gives way to a KNOT that parts it from a new LEAF with the HEAD. */
        private void putKnot(int leaf, long tail, long head) {
            int knot = tails.size;
            tails.add(tail);
            for (int at = 0; at < links.length; at++) {
                if (links[at] == leaf) links[at] = KNOT + knot;
            }
            int first = knot * MOST_OUTPUTS;
            link(first + asking.ask(Codes.join(heads.get(leaf), tail)), leaf);
            addLeaf(first + asking.ask(Codes.join(head, tail)), head);
        }

        private void addLeaf(int at, long head) {
            link(at, heads.size);
            heads.add(head);
        }

        private void link(int at, int what) {
            if (at >= 0 && at < links.length) links[at] = what;
        }

        int linkAt(int at) {
            return at < 0 || at >= links.length ? NONE : links[at];
        }

        /** SIFT: the LEAF, or NONE. */
        int descend(long word) {
            int link = KNOT;
            for (met = 0; link >= KNOT && met < links.length; met++) {
                int knot = link - KNOT;
                place = knot * MOST_OUTPUTS + asking.ask(Codes.join(word, tails.get(knot)));
                link = linkAt(place);
            }
            return link;
        }
    }

    /** Who asks, and notes what was answered, by a METHOD. */
    private static final class Pupil {
        final Asking asking;
        final Table table;
        final Tree tree;
        /** Those of the METHOD. */
        Notes notes;
        int method;
        /** STEPS of the last learning. */
        int steps;
        private final Search search;

        Pupil(Machine machine, Search search) {
            this.search = search;
            asking = new Asking(machine);
            table = new Table(asking);
            tree = new Tree(asking);
            notes = table;
        }

        void renew(int newMethod) {
            method = newMethod;
            notes = method == TREE_METHOD ? tree : table;
            asking.forget();
            notes.renew(method);
        }

        /** LEARNT. */
        void learn() {
            steps = 0;
            for (int i = 0; i < MOST_MOVES; i++) {
                if (notes.hasGuess()) {
                    long wrong = search.firstUnlike(notes.guess, 0, asking.machine, 0);
                    if (wrong == 0) return;
                    notes.lesson(wrong);
                } else {
                    notes.advance();
                    steps++;
                }
            }
        }
    }
}
