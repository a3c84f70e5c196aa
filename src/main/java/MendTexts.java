import java.util.Arrays;

/**
 * Small grammars told as texts, a word, and the fewest changes by which the
 * word, or examples that were told, fit the grammar. The document that it
 * keeps is ../shared/DOC.md; its terms are used here as they stand there.
 */
public final class MendTexts {
    public static final int NONE = -6, UNKNOWN = -1, OUTSIDE = -2, STATE = -3, FULL = -4, NO = -5;

    private static final int LETTERS = 4;
    private static final int NAMES = 6;
    /** A sign of a rule is held as 0 to 3 (letters) or 4 to 9 (names). */
    private static final int SIGNS = LETTERS + NAMES;
    private static final int MOST_RULES = 4;
    private static final int LONGEST_RULE = 4;
    private static final int LONGEST_WORD = 6;
    private static final int LONGEST_TEXT = 12;
    private static final int MOST_EXAMPLES = 3;
    private static final int MOST_WAYS = 1000000;
    /** Above every total that a grammar of 60 signs can cause. */
    private static final int TOO_MUCH = 1 << 30;

    private final Pad pad = new Pad();
    private final Grammar rules = new Grammar();
    private final Grammar draft = new Grammar();
    private final Costs costs = new Costs();
    private final Word typed = new Word(LONGEST_WORD);
    private final Word mended = new Word(LONGEST_TEXT);
    private final Examples examples = new Examples();
    private final Chart chart = new Chart(rules, costs, typed);
    private final Reach reach = new Reach(chart);
    private final Rows ahead = new Rows(costs);
    private final Rows behind = new Rows(costs);
    private final Search search = new Search(rules, chart, examples);
    private boolean chartIsOfWord = false;

    public MendTexts() {
    }

    // ---- 1 grammars

    public int say(int sign) {
        if (sign < Pad.LOWEST || sign > Pad.HIGHEST) {
            return OUTSIDE;
        }
        return pad.add(sign) ? pad.count : FULL;
    }

    public int wipe() {
        int count = pad.count;
        pad.count = 0;
        return count;
    }

    public int fault() {
        return Scan.read(pad, draft);
    }

    public int grammar() {
        if (Scan.read(pad, draft) != NONE) {
            return NO;
        }
        rules.copy(draft);
        pad.count = 0;
        forgetAnswers();
        return Integer.bitCount(rules.namesTold);
    }

    public int rule(int name, int i, int j) {
        if (!isName(name) || i < 0 || i >= rules.countOf(name)) {
            return UNKNOWN;
        }
        int slot = rules.slotOf(name, i);
        int length = rules.lengthOf(slot);
        if (j == -1) {
            return length;
        }
        return j >= 0 && j < length ? codeOf(rules.signAt(slot, j)) : NONE;
    }

    public int least(int name, int j) {
        if (!isName(name)) {
            return UNKNOWN;
        }
        return lettersOf(chartOfWord().leastOf(name), j);
    }

    public int nothing() {
        Chart filled = chartOfWord();
        int bits = 0;
        for (int name = 0; name < NAMES; name++) {
            if (filled.leastOf(name) == Fit.NOTHING) {
                bits |= 1 << name;
            }
        }
        return bits;
    }

    // ---- 2 words

    public int word() {
        if (!pad.isWord()) {
            return NO;
        }
        typed.clear();
        for (int i = 0; i < pad.count; i++) {
            typed.add(pad.signAt(i) - 'a');
        }
        pad.count = 0;
        forgetAnswers();
        return typed.length;
    }

    public int is(int name) {
        if (!isName(name)) {
            return UNKNOWN;
        }
        return chartOfWord().fitsAsItIs(LETTERS + name, 0, typed.length) ? 1 : 0;
    }

    public int first(int name) {
        if (!isName(name)) {
            return UNKNOWN;
        }
        chartOfWord();
        int far = reach.farthest(name);
        return far == typed.length ? NONE : far + 1;
    }

    // ---- 3 mends

    public int cost(int which, int v) {
        if (which < 0 || which >= Costs.KINDS || v < Costs.LOWEST || v > Costs.HIGHEST) {
            return OUTSIDE;
        }
        int before = costs.of(which);
        costs.set(which, v);
        forgetAnswers();
        return before;
    }

    public int mend(int name, int from, int till) {
        if (!isName(name)) {
            return UNKNOWN;
        }
        if (from < 0 || from > till || till > typed.length) {
            return OUTSIDE;
        }
        long fit = chartOfWord().fitOf(LETTERS + name, from, till);
        return fit == Fit.NOTHING ? NO : Fit.costOf(fit);
    }

    public int text(int j) {
        long fit = textFit();
        int refusal = refusalOf(fit);
        return refusal != 0 ? refusal : lettersOf(fit, j);
    }

    public int ways() {
        long fit = textFit();
        int refusal = refusalOf(fit);
        if (refusal != 0) {
            return refusal;
        }
        readText(fit);
        ahead.fill(typed, mended, false);
        return Math.min(ahead.countAt(typed.length, mended.length), MOST_WAYS);
    }

    public int kept(int i) {
        if (i < 0 || i >= typed.length) {
            return OUTSIDE;
        }
        long fit = textFit();
        int refusal = refusalOf(fit);
        if (refusal != 0) {
            return refusal;
        }
        readText(fit);
        ahead.fill(typed, mended, false);
        behind.fill(typed, mended, true);
        int keeping = waysThatKeep(i);
        if (keeping == 0) {
            return 0;
        }
        return keeping == ahead.countAt(typed.length, mended.length) ? 2 : 1;
    }

    // ---- 4 examples

    public int example() {
        if (!examples.add(typed)) {
            return FULL;
        }
        search.forgetBest();
        return examples.count - 1;
    }

    public int forget() {
        int count = examples.count;
        examples.count = 0;
        search.forgetBest();
        return count;
    }

    public int near(int a, int b) {
        if (!examples.has(a) || !examples.has(b)) {
            return UNKNOWN;
        }
        Word one = examples.at(a);
        Word other = examples.at(b);
        ahead.fill(one, other, false);
        return ahead.leastAt(one.length, other.length);
    }

    public int total() {
        chartIsOfWord = false;
        int sum = search.totalBelow(TOO_MUCH);
        return sum == TOO_MUCH ? NO : sum;
    }

    public int more(int name, int what) {
        if (!isName(name)) {
            return UNKNOWN;
        }
        if (what < 0 || what > 3) {
            return OUTSIDE;
        }
        if (examples.count == 0) {
            return STATE;
        }
        if (!search.hasSought(name)) {
            chartIsOfWord = false;
            search.seek(name);
        }
        if (search.bestTotal == TOO_MUCH) {
            return NO;
        }
        if (what == 0) {
            return search.bestTotal;
        }
        int length = rules.lengthOf(Grammar.TRIAL);
        if (what == 1) {
            return length;
        }
        return what - 2 < length ? codeOf(rules.signAt(Grammar.TRIAL, what - 2)) : NONE;
    }

    public int told(int what) {
        if (what >= 5 && what < 5 + Costs.KINDS) {
            return costs.of(what - 5);
        }
        if (what >= 10 && what < 10 + NAMES) {
            return rules.countOf(what - 10);
        }
        switch (what) {
            case 0:
                return pad.count;
            case 1:
                return rules.namesTold;
            case 2:
                return rules.start;
            case 3:
                return typed.length;
            case 4:
                return examples.count;
            default:
                return OUTSIDE;
        }
    }

    // ---- what the calls share

    private static boolean isName(int name) {
        return name >= 0 && name < NAMES;
    }

    private static int codeOf(int sign) {
        return sign < LETTERS ? sign : 10 + sign - LETTERS;
    }

    private static int lettersOf(long fit, int j) {
        if (fit == Fit.NOTHING || Fit.lengthOf(fit) > LONGEST_TEXT) {
            return NONE;
        }
        int length = Fit.lengthOf(fit);
        if (j == -1) {
            return length;
        }
        return j >= 0 && j < length ? Fit.letterAt(fit, j) : NONE;
    }

    private void forgetAnswers() {
        chartIsOfWord = false;
        search.forgetBest();
    }

    private Chart chartOfWord() {
        if (!chartIsOfWord) {
            chart.fill(typed);
            chartIsOfWord = true;
        }
        return chart;
    }

    private long textFit() {
        return chartOfWord().fitOf(LETTERS + rules.start, 0, typed.length);
    }

    /** NO or STATE where the fit is no text to tell, else 0. */
    private static int refusalOf(long fit) {
        if (fit == Fit.NOTHING) {
            return NO;
        }
        return Fit.lengthOf(fit) > LONGEST_TEXT ? STATE : 0;
    }

    private void readText(long fit) {
        mended.clear();
        for (int j = 0; j < LONGEST_TEXT && j < Fit.lengthOf(fit); j++) {
            mended.add(Fit.letterAt(fit, j));
        }
    }

    /** How many of the least rows of pairs have the i-th letter beside its like. */
    private int waysThatKeep(int i) {
        int leftOver = typed.length - i - 1;
        int cheapest = ahead.leastAt(typed.length, mended.length);
        int ways = 0;
        for (int j = 0; j < mended.length; j++) {
            int beyond = mended.length - j - 1;
            if (typed.letterAt(i) == mended.letterAt(j)
                    && ahead.leastAt(i, j) + behind.leastAt(leftOver, beyond) == cheapest) {
                ways += ahead.countAt(i, j) * behind.countAt(leftOver, beyond);
            }
        }
        return ways;
    }

    /** The signs that were said. */
    private static final class Pad {
        static final int LOWEST = 33;
        static final int HIGHEST = 126;
        private static final int MOST = 60;

        private final int[] signs = new int[MOST];
        int count = 0;

        boolean add(int sign) {
            if (count < 0 || count >= MOST) {
                return false;
            }
            signs[count] = sign;
            count++;
            return true;
        }

        int signAt(int i) {
            return i >= 0 && i < count && i < MOST ? signs[i] : 0;
        }

        boolean isWord() {
            if (count > LONGEST_WORD) {
                return false;
            }
            for (int i = 0; i < count; i++) {
                int sign = signAt(i);
                if (sign < 'a' || sign >= 'a' + LETTERS) {
                    return false;
                }
            }
            return true;
        }
    }

    /** Up to as many letters (0 to 3) as it was made for. */
    private static final class Word {
        private final int[] letters;
        int length = 0;

        Word(int longest) {
            letters = new int[longest > 0 ? longest : 0];
        }

        void clear() {
            length = 0;
        }

        void add(int letter) {
            if (length >= 0 && length < letters.length) {
                letters[length] = letter;
                length++;
            }
        }

        void copy(Word other) {
            clear();
            for (int i = 0; i < other.length; i++) {
                add(other.letterAt(i));
            }
        }

        /** The letter at a place; -1: none stands there. */
        int letterAt(int place) {
            return place >= 0 && place < length && place < letters.length ? letters[place] : -1;
        }
    }

    private static final class Examples {
        private final Word[] words = new Word[MOST_EXAMPLES];
        private final Word empty = new Word(0);
        int count = 0;

        Examples() {
            for (int i = 0; i < MOST_EXAMPLES; i++) {
                words[i] = new Word(LONGEST_WORD);
            }
        }

        boolean add(Word word) {
            if (count >= MOST_EXAMPLES) {
                return false;
            }
            count++;
            at(count - 1).copy(word);
            return true;
        }

        boolean has(int number) {
            return number >= 0 && number < count && number < MOST_EXAMPLES;
        }

        Word at(int number) {
            return has(number) && words[number] != null ? words[number] : empty;
        }
    }

    private static final class Costs {
        static final int KINDS = 3;
        static final int LOWEST = 1;
        static final int HIGHEST = 9;

        private final int[] values = {1, 1, 1};

        int of(int kind) {
            return kind >= 0 && kind < KINDS ? values[kind] : LOWEST;
        }

        void set(int kind, int value) {
            if (kind >= 0 && kind < KINDS) {
                values[kind] = value;
            }
        }

        int drop() {
            return values[0];
        }

        int put() {
            return values[1];
        }

        int change() {
            return values[2];
        }
    }

    /**
     * The rules of each name, in slots: four for each name, and one last slot
     * for the rule more that a name is given on trial.
     */
    private static final class Grammar {
        static final int TRIAL = NAMES * MOST_RULES;
        static final int SLOTS = TRIAL + 1;
        /** The empty rule, one sign, two letters. */
        static final int TRIALS = 1 + SIGNS + LETTERS * LETTERS;

        private final int[] counts = new int[NAMES];
        private final int[] lengths = new int[SLOTS];
        private final int[] signs = new int[SLOTS * LONGEST_RULE];
        int namesTold = 0;
        int start = 0;
        private int last = 0;
        private int trialName = -1;

        void clear() {
            Arrays.fill(counts, 0);
            namesTold = 0;
            start = 0;
            last = 0;
        }

        void copy(Grammar other) {
            System.arraycopy(other.counts, 0, counts, 0, NAMES);
            System.arraycopy(other.lengths, 0, lengths, 0, SLOTS);
            System.arraycopy(other.signs, 0, signs, 0, SLOTS * LONGEST_RULE);
            namesTold = other.namesTold;
            start = other.start;
        }

        boolean tellName(int name) {
            if (!isName(name) || (namesTold >> name & 1) != 0) {
                return false;
            }
            if (namesTold == 0) {
                start = name;
            }
            namesTold |= 1 << name;
            last = name;
            return true;
        }

        boolean hasRoomForName() {
            return namesTold != (1 << NAMES) - 1;
        }

        boolean hasRoomForRule() {
            return countOf(last) < MOST_RULES;
        }

        /** An empty rule more for the name that was told last. */
        void beginRule() {
            if (isName(last) && hasRoomForRule()) {
                emptySlot(last * MOST_RULES + counts[last]);
                counts[last]++;
            }
        }

        /** A sign more in the rule that was begun last. */
        boolean addSign(int sign) {
            return addTo(last * MOST_RULES + countOf(last) - 1, sign);
        }

        private void emptySlot(int slot) {
            if (isSlot(slot)) {
                lengths[slot] = 0;
            }
        }

        private boolean addTo(int slot, int sign) {
            int length = lengthOf(slot);
            if (!isSlot(slot) || length < 0 || length >= LONGEST_RULE) {
                return false;
            }
            signs[slot * LONGEST_RULE + length] = sign;
            lengths[slot] = length + 1;
            return true;
        }

        /** Until endTrial the name has one rule more, of those that it could have the number-th. */
        void tryRule(int name, int number) {
            trialName = name;
            emptySlot(TRIAL);
            int pair = number - 1 - SIGNS;
            if (pair >= 0) {
                addTo(TRIAL, pair / LETTERS);
                addTo(TRIAL, pair % LETTERS);
            } else if (number > 0) {
                addTo(TRIAL, number - 1);
            }
        }

        void endTrial() {
            trialName = -1;
        }

        int countOf(int name) {
            if (!isName(name)) {
                return 0;
            }
            return counts[name] + (trialName == name ? 1 : 0);
        }

        int slotOf(int name, int i) {
            return isName(name) && i < counts[name] ? name * MOST_RULES + i : TRIAL;
        }

        int lengthOf(int slot) {
            return slot >= 0 && slot < SLOTS ? lengths[slot] : 0;
        }

        int signAt(int slot, int i) {
            int at = slot * LONGEST_RULE + i;
            return at >= 0 && at < signs.length ? signs[at] : 0;
        }

        private static boolean isSlot(int slot) {
            return slot >= 0 && slot < SLOTS;
        }

        /** Of each name, the names that have it in a rule, as bits. */
        void findUsers(int[] users) {
            Arrays.fill(users, 0);
            for (int name = 0; name < NAMES; name++) {
                int used = namesUsedBy(name);
                for (int other = 0; other < NAMES && other < users.length; other++) {
                    users[other] |= (used >> other & 1) << name;
                }
            }
        }

        /** Whether the words of the start can hang on the rules of a name. */
        boolean startUses(int name) {
            int bits = 1 << start;
            for (int round = 0; round < NAMES; round++) {
                for (int other = 0; other < NAMES; other++) {
                    bits |= (bits >> other & 1) != 0 ? namesUsedBy(other) : 0;
                }
            }
            return (bits >> name & 1) != 0;
        }

        private int namesUsedBy(int name) {
            int bits = 0;
            for (int i = 0; i < countOf(name); i++) {
                int slot = slotOf(name, i);
                for (int j = 0; j < lengthOf(slot); j++) {
                    int sign = signAt(slot, j);
                    bits |= sign >= LETTERS ? 1 << sign - LETTERS : 0;
                }
            }
            return bits;
        }
    }

    /** Reads the signs of a pad as a grammar, from left to right. */
    private static final class Scan {
        private static final int AT_NAME = 0;
        private static final int AT_EQUALS = 1;
        private static final int AT_RULE = 2;
        private static final int IN_RULE = 3;
        private static final int BEHIND_RULE = 4;
        private static final int AT_FAULT = 5;

        private Scan() {
        }

        /** The fault, or NONE; then the grammar holds what the pad tells. */
        static int read(Pad pad, Grammar into) {
            into.clear();
            int state = AT_NAME;
            for (int i = 0; i < pad.count; i++) {
                state = next(state, pad.signAt(i), into);
                if (state == AT_FAULT) {
                    return i;
                }
            }
            return state == IN_RULE || state == BEHIND_RULE ? NONE : pad.count;
        }

        private static int next(int state, int sign, Grammar into) {
            switch (state) {
                case AT_NAME:
                    return into.tellName(sign - 'A') ? AT_EQUALS : AT_FAULT;
                case AT_EQUALS:
                    return sign == '=' ? AT_RULE : AT_FAULT;
                case AT_RULE:
                    return openRule(sign, into);
                case IN_RULE:
                    return isSign(sign) ? addSign(sign, into) : closeRule(sign, into);
                default:
                    return closeRule(sign, into);
            }
        }

        private static int openRule(int sign, Grammar into) {
            if (sign == '_') {
                into.beginRule();
                return BEHIND_RULE;
            }
            if (!isSign(sign)) {
                return AT_FAULT;
            }
            into.beginRule();
            return addSign(sign, into);
        }

        private static int addSign(int sign, Grammar into) {
            int held = sign >= 'a' ? sign - 'a' : LETTERS + sign - 'A';
            return into.addSign(held) ? IN_RULE : AT_FAULT;
        }

        private static int closeRule(int sign, Grammar into) {
            if (sign == '|' && into.hasRoomForRule()) {
                return AT_RULE;
            }
            return sign == ';' && into.hasRoomForName() ? AT_NAME : AT_FAULT;
        }

        private static boolean isSign(int sign) {
            return sign >= 'a' && sign < 'a' + LETTERS || sign >= 'A' && sign < 'A' + NAMES;
        }
    }

    /**
     * A word made of a part, as one number: the cost above, the word's length
     * in the middle, its letters below (none if it has more than are told), so
     * that the smaller number is the cheaper, then shorter, then first one.
     */
    private static final class Fit {
        static final long NOTHING = 0x7FFFFFFFFFFFFFFFL;
        private static final int LENGTH_AT = 2 * LONGEST_TEXT;
        private static final int COST_AT = LENGTH_AT + 19;
        private static final long LETTERS_ONLY = (1L << LENGTH_AT) - 1;
        private static final long LENGTH_ONLY = (1L << COST_AT - LENGTH_AT) - 1;

        private Fit() {
        }

        static long ofNone(int cost) {
            return (long) cost << COST_AT;
        }

        static long ofOne(int cost, int letter) {
            return (long) cost << COST_AT | 1L << LENGTH_AT | letter;
        }

        static int costOf(long fit) {
            return (int) (fit >> COST_AT);
        }

        static int lengthOf(long fit) {
            return (int) (fit >> LENGTH_AT & LENGTH_ONLY);
        }

        static int letterAt(long fit, int j) {
            return (int) (fit >> 2 * (lengthOf(fit) - 1 - j)) & 3;
        }

        /** The lesser one of the best fit so far and of two fits, one behind the other. */
        static long lesser(long best, long one, long other) {
            if (one == NOTHING || other == NOTHING) {
                return best;
            }
            long sum = (one & ~LETTERS_ONLY) + (other & ~LETTERS_ONLY);
            if (sum > best) {
                return best;
            }
            if ((sum >> LENGTH_AT & LENGTH_ONLY) <= LONGEST_TEXT) {
                long moved = 2 * (other >> LENGTH_AT & LENGTH_ONLY);
                sum |= (one & LETTERS_ONLY) << moved | other & LETTERS_ONLY;
            }
            return sum < best ? sum : best;
        }
    }

    /** The least fit of each sign for each part of a word. */
    private static final class Chart {
        static final int PLACES = LONGEST_WORD + 1;
        private static final int PARTS = PLACES * PLACES;
        private static final int HEADS = LONGEST_RULE - 2;

        final Grammar grammar;
        private final Costs costs;
        private Word word;
        /** In rows of parts: first of the signs, then of each rule's first two and first three signs. */
        private final long[] fits = new long[(SIGNS + Grammar.SLOTS * HEADS) * PARTS];
        private final int[] users = new int[NAMES];

        Chart(Grammar grammar, Costs costs, Word word) {
            this.grammar = grammar;
            this.costs = costs;
            this.word = word;
        }

        void fill(Word of) {
            word = of;
            grammar.findUsers(users);
            fillLetters();
            for (int length = 0; length <= word.length; length++) {
                for (int from = 0; from + length <= word.length; from++) {
                    settle(from, from + length);
                }
            }
        }

        long fitOf(int sign, int from, int till) {
            return fitAt(sign * PARTS + from * PLACES + till);
        }

        long leastOf(int name) {
            return fitOf(LETTERS + name, 0, 0);
        }

        int length() {
            return word.length;
        }

        boolean letterStandsAt(int letter, int place) {
            return word.letterAt(place) == letter;
        }

        boolean fitsAsItIs(int sign, int from, int till) {
            long fit = fitOf(sign, from, till);
            return fit != Fit.NOTHING && Fit.costOf(fit) == 0;
        }

        boolean comesToWords(int slot) {
            for (int i = 0; i < grammar.lengthOf(slot); i++) {
                if (fitOf(grammar.signAt(slot, i), 0, 0) == Fit.NOTHING) {
                    return false;
                }
            }
            return true;
        }

        private long fitAt(int at) {
            return at >= 0 && at < fits.length ? fits[at] : Fit.NOTHING;
        }

        private void setFit(int row, int from, int till, long fit) {
            int at = row * PARTS + from * PLACES + till;
            if (at >= 0 && at < fits.length) {
                fits[at] = fit;
            }
        }

        private void fillLetters() {
            for (int from = 0; from <= word.length; from++) {
                int seen = 0;
                for (int till = from; till <= word.length; till++) {
                    if (till > from) {
                        seen |= 1 << word.letterAt(till - 1);
                    }
                    fillLettersOf(from, till, seen);
                }
            }
        }

        private void fillLettersOf(int from, int till, int seen) {
            int others = (till - from - 1) * costs.drop();
            int strange = Math.min(costs.change(), costs.drop() + costs.put());
            for (int letter = 0; letter < LETTERS; letter++) {
                int cost = others + ((seen >> letter & 1) != 0 ? 0 : strange);
                setFit(letter, from, till, Fit.ofOne(from == till ? costs.put() : cost, letter));
            }
        }

        /**
         * All smaller parts are settled. A least fit need not come back to a
         * name within one part, so that as many rounds as there are names find
         * it; one more brings the heads of the rules up to it.
         */
        private void settle(int from, int till) {
            for (int name = 0; name < NAMES; name++) {
                setFit(LETTERS + name, from, till, Fit.NOTHING);
            }
            int stale = (1 << NAMES) - 1;
            for (int round = 0; stale != 0 && round <= NAMES; round++) {
                for (int name = NAMES - 1; name >= 0; name--) {
                    if ((stale >> name & 1) != 0) {
                        stale &= ~(1 << name);
                        stale |= lessen(name, from, till) ? users[name] : 0;
                    }
                }
            }
        }

        /** Whether the name's rules have a lesser fit than it had. */
        private boolean lessen(int name, int from, int till) {
            long before = fitOf(LETTERS + name, from, till);
            long best = before;
            int count = grammar.countOf(name);
            for (int i = 0; i < count; i++) {
                best = Math.min(best, ruleFit(grammar.slotOf(name, i), from, till));
            }
            setFit(LETTERS + name, from, till, best);
            return best < before;
        }

        /** Sign by sign: the part is shared out between the signs ahead and the next one. */
        private long ruleFit(int slot, int from, int till) {
            int length = grammar.lengthOf(slot);
            if (length == 0) {
                return Fit.ofNone((till - from) * costs.drop());
            }
            int row = grammar.signAt(slot, 0);
            long best = fitAt(row * PARTS + from * PLACES + till);
            for (int i = 1; i < length; i++) {
                int ahead = row * PARTS + from * PLACES + from;
                int behind = grammar.signAt(slot, i) * PARTS + from * PLACES + till;
                best = Fit.NOTHING;
                for (int at = from; at <= till; at++) {
                    best = Fit.lesser(best, fitAt(ahead), fitAt(behind));
                    ahead++;
                    behind += PLACES;
                }
                row = SIGNS + slot * HEADS + i - 1;
                if (i + 1 < length) {
                    setFit(row, from, till, best);
                }
            }
            return best;
        }
    }

    /** How far along the charted word some word of a name goes with it. */
    private static final class Reach {
        private final Chart chart;
        /** Of each name from each place on: the place up to which; -1: no word is known yet. */
        private final int[] far = new int[NAMES * Chart.PLACES];

        Reach(Chart chart) {
            this.chart = chart;
        }

        int farthest(int name) {
            Arrays.fill(far, -1);
            for (int place = chart.length(); place >= 0; place--) {
                boolean again = true;
                for (int round = 0; again && round < NAMES; round++) {
                    again = sweep(place);
                }
            }
            return farOfSign(LETTERS + name, 0);
        }

        /** Whether some name goes farther from the place on than was known. */
        private boolean sweep(int place) {
            boolean again = false;
            for (int name = NAMES - 1; name >= 0; name--) {
                int at = name * Chart.PLACES + place;
                for (int i = 0; i < chart.grammar.countOf(name); i++) {
                    int reached = farOfRule(chart.grammar.slotOf(name, i), place);
                    if (at >= 0 && at < far.length && reached > far[at]) {
                        far[at] = reached;
                        again = true;
                    }
                }
            }
            return again;
        }

        private int farOfRule(int slot, int place) {
            if (!chart.comesToWords(slot)) {
                return -1;
            }
            int reached = place;
            int ends = 1 << place;
            for (int i = 0; i < chart.grammar.lengthOf(slot); i++) {
                int sign = chart.grammar.signAt(slot, i);
                reached = Math.max(reached, farFrom(ends, sign));
                ends = endsBehind(ends, sign);
            }
            return reached;
        }

        private int farFrom(int starts, int sign) {
            int reached = -1;
            for (int place = 0; place <= chart.length(); place++) {
                if ((starts >> place & 1) != 0) {
                    reached = Math.max(reached, farOfSign(sign, place));
                }
            }
            return reached;
        }

        private int farOfSign(int sign, int place) {
            if (sign < LETTERS) {
                return chart.letterStandsAt(sign, place) ? place + 1 : place;
            }
            int at = (sign - LETTERS) * Chart.PLACES + place;
            return at >= 0 && at < far.length ? far[at] : -1;
        }

        /** The places, as bits, at which a sign can end that begins at one of the starts. */
        private int endsBehind(int starts, int sign) {
            int ends = 0;
            for (int from = 0; from <= chart.length(); from++) {
                for (int till = from; (starts >> from & 1) != 0 && till <= chart.length(); till++) {
                    if (chart.fitsAsItIs(sign, from, till)) {
                        ends |= 1 << till;
                    }
                }
            }
            return ends;
        }
    }

    /** Of the first letters of two words: the least cost of rows of pairs, and how many cost it. */
    private static final class Rows {
        private static final int WIDTH = LONGEST_TEXT + 1;

        private final Costs costs;
        private final int[] leasts = new int[(LONGEST_WORD + 1) * WIDTH];
        private final int[] counts = new int[(LONGEST_WORD + 1) * WIDTH];

        Rows(Costs costs) {
            this.costs = costs;
        }

        /** Backwards: first letters are counted from the right end. */
        void fill(Word one, Word other, boolean backwards) {
            for (int i = 0; i <= one.length; i++) {
                for (int j = 0; j <= other.length; j++) {
                    int at = i * WIDTH + j;
                    clear(at);
                    if (i > 0) {
                        offer(at, at - WIDTH, costs.drop());
                    }
                    if (j > 0) {
                        offer(at, at - 1, costs.put());
                    }
                    if (i > 0 && j > 0) {
                        boolean same = letter(one, i, backwards) == letter(other, j, backwards);
                        offer(at, at - WIDTH - 1, same ? 0 : costs.change());
                    }
                }
            }
        }

        int leastAt(int i, int j) {
            int at = i * WIDTH + j;
            return at >= 0 && at < leasts.length ? leasts[at] : TOO_MUCH;
        }

        int countAt(int i, int j) {
            int at = i * WIDTH + j;
            return at >= 0 && at < counts.length ? counts[at] : 0;
        }

        private static int letter(Word word, int number, boolean backwards) {
            return word.letterAt(backwards ? word.length - number : number - 1);
        }

        /** No row yet, but for the one row of no pairs. */
        private void clear(int at) {
            if (at >= 0 && at < leasts.length && at < counts.length) {
                leasts[at] = at == 0 ? 0 : TOO_MUCH;
                counts[at] = at == 0 ? 1 : 0;
            }
        }

        private void offer(int at, int before, int cost) {
            if (before < 0 || before >= at || at >= leasts.length || at >= counts.length) {
                return;
            }
            int sum = leasts[before] + cost;
            if (sum < leasts[at]) {
                leasts[at] = sum;
                counts[at] = 0;
            }
            if (sum == leasts[at]) {
                counts[at] += counts[before];
            }
        }
    }

    /** The total of the examples, and the rule more by which it is least. */
    private static final class Search {
        private final Grammar grammar;
        private final Chart chart;
        private final Examples examples;
        /** The name that the best rule was sought for; -1: for none, or what it hangs on has changed. */
        private int nameSought = -1;
        int bestTotal = TOO_MUCH;
        private int bestNumber = 0;

        Search(Grammar grammar, Chart chart, Examples examples) {
            this.grammar = grammar;
            this.chart = chart;
            this.examples = examples;
        }

        boolean hasSought(int name) {
            return name == nameSought;
        }

        void forgetBest() {
            nameSought = -1;
        }

        /** The total, or the limit, if it is not below that or the start comes to nothing. */
        int totalBelow(int limit) {
            int sum = 0;
            for (int i = 0; i < examples.count && sum < limit; i++) {
                Word word = examples.at(i);
                chart.fill(word);
                long fit = chart.fitOf(LETTERS + grammar.start, 0, word.length);
                if (fit == Fit.NOTHING) {
                    return limit;
                }
                sum += Fit.costOf(fit);
            }
            return Math.min(sum, limit);
        }

        /** Afterwards the best rule stands in the trial slot. */
        void seek(int name) {
            bestTotal = TOO_MUCH;
            bestNumber = 0;
            // Where the start does not hang on the name, no rule is better than the first one.
            int trials = grammar.startUses(name) ? Grammar.TRIALS : 1;
            for (int number = 0; number < trials && bestTotal > 0; number++) {
                grammar.tryRule(name, number);
                int sum = totalBelow(bestTotal);
                if (sum < bestTotal) {
                    bestTotal = sum;
                    bestNumber = number;
                }
            }
            grammar.tryRule(name, bestNumber);
            grammar.endTrial();
            nameSought = name;
        }
    }
}
