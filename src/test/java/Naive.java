import java.util.ArrayList;
import java.util.HashMap;
import java.util.HashSet;
import java.util.List;
import java.util.Map;
import java.util.Set;
import java.util.TreeSet;
import java.util.regex.Pattern;

/**
 * The document done the plainest way, to compare with: words are listed up to
 * a length, and all rows of pairs are walked. Where the list cannot decide, it
 * answers UNSURE.
 */
final class Naive {
    static final int UNSURE = Integer.MIN_VALUE;
    static final int LONGEST = 8;
    private static final int MOST_WORDS = 700;
    private static final int NONE = -6, UNKNOWN = -1, OUTSIDE = -2, STATE = -3, FULL = -4, NO = -5;
    private static final Pattern WHOLE = Pattern.compile(
            "[A-F]=(_|[a-dA-F]{1,4})(\\|(_|[a-dA-F]{1,4})){0,3}"
            + "(;[A-F]=(_|[a-dA-F]{1,4})(\\|(_|[a-dA-F]{1,4})){0,3})*");

    private String pad = "";
    private String word = "";
    private Language language = new Language(new HashMap<>(), LONGEST);
    private String prefixesFor = null;
    private Language shortOnes = new Language(new HashMap<>(), 6);
    private Map<Character, List<String>> rules = new HashMap<>();
    private char start = 'A';
    private int told = 0;
    private final List<String> examples = new ArrayList<>();
    private final int[] costs = {1, 1, 1};

    /** The words of each name up to a length. */
    static final class Language {
        final Map<Character, List<String>> rules;
        final int longest;
        final Map<Character, Set<String>> words = new HashMap<>();
        boolean tooMany = false;
        boolean cut = false;

        Language(Map<Character, List<String>> rules, int longest) {
            this.rules = rules;
            this.longest = longest;
            for (char name = 'A'; name <= 'F'; name++) {
                words.put(name, new HashSet<>());
            }
            boolean again = true;
            while (again && !tooMany) {
                again = false;
                cut = false;
                for (char name : rules.keySet()) {
                    for (String rule : rules.get(name)) {
                        again |= words.get(name).addAll(concatenations(rule));
                        tooMany |= words.get(name).size() > MOST_WORDS;
                    }
                }
            }
        }

        Set<String> of(char sign) {
            return sign >= 'a' ? Set.of("" + sign) : words.get(sign);
        }

        Set<String> concatenations(String rule) {
            Set<String> all = new HashSet<>(Set.of(""));
            for (int i = 0; i < rule.length() && !tooMany; i++) {
                Set<String> longer = new HashSet<>();
                for (String one : all) {
                    for (String other : of(rule.charAt(i))) {
                        if (one.length() + other.length() <= longest) {
                            longer.add(one + other);
                        } else {
                            cut = true;
                        }
                    }
                }
                all = longer;
                tooMany |= all.size() > 20 * MOST_WORDS;
            }
            return all;
        }
    }

    int say(int sign) {
        if (sign < 33 || sign > 126) {
            return OUTSIDE;
        }
        if (pad.length() == 60) {
            return FULL;
        }
        pad += (char) sign;
        return pad.length();
    }

    int wipe() {
        int count = pad.length();
        pad = "";
        return count;
    }

    private static boolean isWhole(String signs) {
        if (!WHOLE.matcher(signs).matches()) {
            return false;
        }
        Set<Character> names = new HashSet<>();
        for (String part : signs.split(";")) {
            if (!names.add(part.charAt(0))) {
                return false;
            }
        }
        return true;
    }

    private static boolean canGoOn(String signs) {
        if (isWhole(signs) || isWhole(signs + "a") || isWhole(signs + "=a")) {
            return true;
        }
        for (char name = 'A'; name <= 'F'; name++) {
            if (isWhole(signs + name + "=a")) {
                return true;
            }
        }
        return false;
    }

    int fault() {
        if (isWhole(pad)) {
            return NONE;
        }
        for (int i = 0; i < pad.length(); i++) {
            if (!canGoOn(pad.substring(0, i + 1))) {
                return i;
            }
        }
        return pad.length();
    }

    int grammar() {
        if (!isWhole(pad)) {
            return NO;
        }
        rules = new HashMap<>();
        told = 0;
        start = pad.charAt(0);
        for (String part : pad.split(";")) {
            List<String> own = new ArrayList<>();
            for (String rule : part.substring(2).split("\\|")) {
                own.add(rule.equals("_") ? "" : rule);
            }
            rules.put(part.charAt(0), own);
            told |= 1 << part.charAt(0) - 'A';
        }
        pad = "";
        language = new Language(rules, LONGEST);
        shortOnes = new Language(rules, 6);
        return rules.size();
    }

    private static boolean isName(int name) {
        return name >= 0 && name <= 5;
    }

    private static char sign(int name) {
        return (char) ('A' + name);
    }

    private static int code(char sign) {
        return sign >= 'a' ? sign - 'a' : sign - 'A' + 10;
    }

    int rule(int name, int i, int j) {
        if (!isName(name) || !rules.containsKey(sign(name)) || i < 0 || i >= rules.get(sign(name)).size()) {
            return UNKNOWN;
        }
        String rule = rules.get(sign(name)).get(i);
        return j == -1 ? rule.length() : j >= 0 && j < rule.length() ? code(rule.charAt(j)) : NONE;
    }

    private static Set<Character> nothings(Map<Character, List<String>> rules) {
        Set<Character> nothings = new TreeSet<>(List.of('A', 'B', 'C', 'D', 'E', 'F'));
        for (int round = 0; round < 7; round++) {
            for (char name : rules.keySet()) {
                for (String rule : rules.get(name)) {
                    if (rule.chars().noneMatch(sign -> nothings.contains((char) sign))) {
                        nothings.remove(name);
                    }
                }
            }
        }
        return nothings;
    }

    int nothing() {
        int bits = 0;
        for (char name : nothings(rules)) {
            bits |= 1 << name - 'A';
        }
        return bits;
    }

    private static boolean before(String one, String other) {
        return one.length() != other.length() ? one.length() < other.length() : one.compareTo(other) < 0;
    }

    int least(int name, int j) {
        if (!isName(name)) {
            return UNKNOWN;
        }
        if ((nothing() >> name & 1) != 0) {
            return NONE;
        }
        String best = null;
        for (String one : language.words.get(sign(name))) {
            best = best == null || before(one, best) ? one : best;
        }
        if (best == null || language.tooMany) {
            return UNSURE;
        }
        return j == -1 ? best.length() : j >= 0 && j < best.length() ? best.charAt(j) - 'a' : NONE;
    }

    int word() {
        if (!pad.matches("[a-d]{0,6}")) {
            return NO;
        }
        word = pad;
        pad = "";
        return word.length();
    }

    int is(int name) {
        if (!isName(name)) {
            return UNKNOWN;
        }
        return shortOnes.tooMany ? UNSURE : shortOnes.words.get(sign(name)).contains(word) ? 1 : 0;
    }

    /** Beginnings up to six letters of the words of each name. */
    private Map<Character, Set<String>> beginnings() {
        Set<Character> nothings = nothings(rules);
        Map<Character, Set<String>> all = new HashMap<>();
        for (char name = 'A'; name <= 'F'; name++) {
            all.put(name, new HashSet<>());
        }
        boolean again = true;
        while (again) {
            again = false;
            for (char name : rules.keySet()) {
                for (String rule : rules.get(name)) {
                    if (rule.chars().noneMatch(sign -> nothings.contains((char) sign))) {
                        again |= all.get(name).addAll(beginningsOf(rule, all));
                    }
                }
            }
        }
        return all;
    }

    private Set<String> beginningsOf(String rule, Map<Character, Set<String>> all) {
        Set<String> found = new HashSet<>(Set.of(""));
        for (int i = 0; i < rule.length(); i++) {
            char sign = rule.charAt(i);
            for (String one : shortOnes.concatenations(rule.substring(0, i))) {
                for (String other : sign >= 'a' ? Set.of("" + sign) : all.get(sign)) {
                    String both = one + other;
                    found.add(both.substring(0, Math.min(6, both.length())));
                }
            }
        }
        return found;
    }

    int first(int name) {
        if (!isName(name)) {
            return UNKNOWN;
        }
        if (shortOnes.tooMany) {
            return UNSURE;
        }
        Set<String> mine = beginnings().get(sign(name));
        for (int count = 0; count <= word.length(); count++) {
            String head = word.substring(0, count);
            if (mine.stream().noneMatch(one -> one.startsWith(head))) {
                return count;
            }
        }
        return NONE;
    }

    int cost(int which, int v) {
        if (which < 0 || which > 2 || v < 1 || v > 9) {
            return OUTSIDE;
        }
        int before = costs[which];
        costs[which] = v;
        return before;
    }

    int near(String one, String other) {
        int[][] table = new int[one.length() + 1][other.length() + 1];
        for (int i = one.length(); i >= 0; i--) {
            for (int j = other.length(); j >= 0; j--) {
                int best = i == one.length() && j == other.length() ? 0 : Integer.MAX_VALUE;
                if (i < one.length()) {
                    best = Math.min(best, costs[0] + table[i + 1][j]);
                }
                if (j < other.length()) {
                    best = Math.min(best, costs[1] + table[i][j + 1]);
                }
                if (i < one.length() && j < other.length()) {
                    best = Math.min(best, table[i + 1][j + 1]
                            + (one.charAt(i) == other.charAt(j) ? 0 : costs[2]));
                }
                table[i][j] = best;
            }
        }
        return table[0][0];
    }

    private int mendOf(Language of, char name, String part) {
        if (of.tooMany) {
            return UNSURE;
        }
        int best = Integer.MAX_VALUE;
        for (String one : of.words.get(name)) {
            best = Math.min(best, near(part, one));
        }
        boolean sure = !of.cut || best <= costs[1] * (of.longest + 1 - part.length());
        return sure ? best : UNSURE;
    }

    int mend(int name, int from, int till) {
        if (!isName(name)) {
            return UNKNOWN;
        }
        if (from < 0 || till < from || till > word.length()) {
            return OUTSIDE;
        }
        if ((nothing() >> name & 1) != 0) {
            return NO;
        }
        return mendOf(language, sign(name), word.substring(from, till));
    }

    /** null: unsure. */
    private String textOf() {
        int mend = mendOf(language, start, word);
        if (mend == UNSURE) {
            return null;
        }
        String best = null;
        for (String one : language.words.get(start)) {
            if (near(word, one) == mend && (best == null || before(one, best))) {
                best = one;
            }
        }
        return best;
    }

    int text(int j) {
        if ((nothing() >> start - 'A' & 1) != 0) {
            return NO;
        }
        String text = textOf();
        if (text == null) {
            return UNSURE;
        }
        return j == -1 ? text.length() : j >= 0 && j < text.length() ? text.charAt(j) - 'a' : NONE;
    }

    /** All rows of pairs from i and j on that cost what is left; marks which letters they keep. */
    private int walk(String text, int i, int j, int left, int kept, int[] keeping) {
        if (left < 0) {
            return 0;
        }
        if (i == word.length() && j == text.length()) {
            if (left != 0) {
                return 0;
            }
            for (int k = 0; k < word.length(); k++) {
                keeping[k] += kept >> k & 1;
            }
            return 1;
        }
        int count = 0;
        if (i < word.length()) {
            count += walk(text, i + 1, j, left - costs[0], kept, keeping);
        }
        if (j < text.length()) {
            count += walk(text, i, j + 1, left - costs[1], kept, keeping);
        }
        if (i < word.length() && j < text.length()) {
            boolean same = word.charAt(i) == text.charAt(j);
            count += walk(text, i + 1, j + 1, left - (same ? 0 : costs[2]), same ? kept | 1 << i : kept, keeping);
        }
        return count;
    }

    int ways() {
        if ((nothing() >> start - 'A' & 1) != 0) {
            return NO;
        }
        String text = textOf();
        return text == null ? UNSURE
                : Math.min(1000000, walk(text, 0, 0, near(word, text), 0, new int[6]));
    }

    int kept(int i) {
        if (i < 0 || i >= word.length()) {
            return OUTSIDE;
        }
        if ((nothing() >> start - 'A' & 1) != 0) {
            return NO;
        }
        String text = textOf();
        if (text == null) {
            return UNSURE;
        }
        int[] keeping = new int[6];
        int count = walk(text, 0, 0, near(word, text), 0, keeping);
        return keeping[i] == 0 ? 0 : keeping[i] == count ? 2 : 1;
    }

    int example() {
        if (examples.size() == 3) {
            return FULL;
        }
        examples.add(word);
        return examples.size() - 1;
    }

    int forget() {
        int count = examples.size();
        examples.clear();
        return count;
    }

    int near(int a, int b) {
        if (a < 0 || b < 0 || a >= examples.size() || b >= examples.size()) {
            return UNKNOWN;
        }
        return near(examples.get(a), examples.get(b));
    }

    private int totalOf(Language of) {
        if (examples.isEmpty()) {
            return 0;
        }
        if (nothings(of.rules).contains(start)) {
            return NO;
        }
        int sum = 0;
        for (String example : examples) {
            int mend = mendOf(of, start, example);
            if (mend == UNSURE) {
                return UNSURE;
            }
            sum += mend;
        }
        return sum;
    }

    int total() {
        return totalOf(language);
    }

    private static List<String> candidates() {
        List<String> all = new ArrayList<>(List.of("", "a", "b", "c", "d", "A", "B", "C", "D", "E", "F"));
        for (char one = 'a'; one <= 'd'; one++) {
            for (char two = 'a'; two <= 'd'; two++) {
                all.add("" + one + two);
            }
        }
        return all;
    }

    int more(int name, int what) {
        if (!isName(name)) {
            return UNKNOWN;
        }
        if (what < 0 || what > 3) {
            return OUTSIDE;
        }
        if (examples.isEmpty()) {
            return STATE;
        }
        String best = null;
        int least = Integer.MAX_VALUE;
        for (String candidate : candidates()) {
            Map<Character, List<String>> with = new HashMap<>(rules);
            List<String> own = new ArrayList<>(rules.getOrDefault(sign(name), List.of()));
            own.add(candidate);
            with.put(sign(name), own);
            int sum = totalOf(new Language(with, LONGEST - 1));
            if (sum == UNSURE) {
                return UNSURE;
            }
            if (sum != NO && sum < least) {
                least = sum;
                best = candidate;
            }
        }
        if (best == null) {
            return NO;
        }
        return what == 0 ? least : what == 1 ? best.length()
                : what - 2 < best.length() ? code(best.charAt(what - 2)) : NONE;
    }

    int told(int what) {
        switch (what) {
            case 0: return pad.length();
            case 1: return told;
            case 2: return start - 'A';
            case 3: return word.length();
            case 4: return examples.size();
            case 5: case 6: case 7: return costs[what - 5];
            default:
                if (what < 10 || what > 15) {
                    return OUTSIDE;
                }
                return rules.getOrDefault(sign(what - 10), List.of()).size();
        }
    }
}
