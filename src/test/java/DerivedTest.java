import java.util.ArrayList;
import java.util.Arrays;
import java.util.Collections;
import java.util.HashMap;
import java.util.List;
import java.util.Map;
import java.util.Random;
import java.util.TreeMap;

/**
 * Grammars made by chance (of told seeds), with words of any length: mend,
 * text, least, nothing, is, first, total and more compared with Derived, ways
 * and kept with a walk over all rows of pairs.
 */
final class DerivedTest {
    private static final Check check = new Check();
    private static int longTexts = 0;

    public static void main(String[] args) {
        int runs = args.length > 1 ? Integer.parseInt(args[1]) : 400;
        for (int seed = 1; seed <= runs; seed++) {
            new Run(seed).all();
        }
        check.holds("texts of more than 12 letters were among them", longTexts > runs / 40);
        check.end("DerivedTest");
    }

    private static final class Run {
        private final Random chance;
        private final Map<Character, List<String>> rules = new TreeMap<>();
        private final int[] costs = new int[3];
        private final String signs;
        private final char start;

        Run(int seed) {
            chance = new Random(seed);
            signs = grammar();
            start = signs.charAt(0);
            boolean small = chance.nextBoolean();
            for (int which = 0; which < 3; which++) {
                costs[which] = 1 + chance.nextInt(small ? 2 : 9);
            }
            check.sentence("seed " + seed + ", " + signs + ", " + Arrays.toString(costs));
        }

        private MendTexts made(List<String> examples) {
            MendTexts x = new MendTexts();
            check.due("grammar", Check.grammar(x, signs), rules.size());
            for (int which = 0; which < 3; which++) {
                x.cost(which, costs[which]);
            }
            for (String example : examples) {
                Check.examples(x, example);
            }
            return x;
        }

        private String grammar() {
            List<Character> names = new ArrayList<>(List.of('A', 'B', 'C', 'D', 'E', 'F'));
            Collections.shuffle(names, chance);
            int count = 1 + chance.nextInt(6);
            boolean growing = chance.nextInt(3) == 0;
            StringBuilder all = new StringBuilder();
            for (int n = 0; n < count; n++) {
                List<String> own = new ArrayList<>();
                for (int i = chance.nextInt(1 + chance.nextInt(4)); i >= 0; i--) {
                    own.add(rule(names, count, n, growing && n < count - 1));
                }
                String part = (n > 0 ? ";" : "") + names.get(n) + "=" + String.join("|", own).replaceAll(
                        "(?<![a-dA-F])(?![a-dA-F])", "_");
                if (all.length() + part.length() <= 60) {
                    all.append(part);
                    rules.put(names.get(n), own);
                }
            }
            return all.toString();
        }

        /** Growing: many names, of those that are told later on. */
        private String rule(List<Character> names, int count, int n, boolean growing) {
            StringBuilder rule = new StringBuilder();
            int length = growing ? 3 + chance.nextInt(2) : chance.nextInt(10) == 0 ? 0 : 1 + chance.nextInt(4);
            for (int i = 0; i < length; i++) {
                if (chance.nextInt(6) < (growing ? 4 : 3)) {
                    rule.append(names.get(growing ? n + 1 + chance.nextInt(count - n - 1) : chance.nextInt(count)));
                } else {
                    rule.append((char) ('a' + chance.nextInt(4)));
                }
            }
            return rule.toString();
        }

        void all() {
            List<String> words = List.of(word(), word());
            for (String word : words) {
                MendTexts x = made(List.of());
                Check.word(x, word);
                Derived derived = new Derived(rules, word, costs);
                ofNames(x, word, derived);
                ofText(x, word, derived.of(start, 0, word.length()));
            }
            MendTexts x = made(words);
            check.due("total of " + words, x.total(), total(rules, words));
            char name = chance.nextBoolean() ? start : (char) ('A' + chance.nextInt(6));
            ofMore(x, name, words);
        }

        private String word() {
            StringBuilder word = new StringBuilder();
            int kinds = 1 + chance.nextInt(4);
            for (int i = chance.nextInt(7); i > 0; i--) {
                word.append((char) ('a' + chance.nextInt(kinds)));
            }
            return word.toString();
        }

        private void ofNames(MendTexts x, String word, Derived derived) {
            int nothing = 0;
            for (char name = 'A'; name <= 'F'; name++) {
                int number = name - 'A';
                for (int from = 0; from <= word.length(); from++) {
                    for (int till = from; till <= word.length(); till++) {
                        Derived.Made made = derived.of(name, from, till);
                        check.due("mend " + name + from + till + " of " + word, x.mend(number, from, till),
                                made == null ? Check.NO : made.cost());
                    }
                }
                Derived.Made whole = derived.of(name, 0, word.length());
                check.due("is " + name + ": " + word, x.is(number), whole != null && whole.cost() == 0 ? 1 : 0);
                check.due("first " + name + ": " + word, x.first(number), Derived.first(rules, name, word));
                Derived.Made least = derived.of(name, 0, 0);
                nothing |= least == null ? 1 << number : 0;
                boolean told = least != null && least.text().length() <= 12;
                check.due("least " + name, Check.least(x, number), told ? least.text() : "" + Check.NONE);
            }
            check.due("nothing", x.nothing(), nothing);
        }

        private void ofText(MendTexts x, String word, Derived.Made made) {
            if (made == null || made.text().length() > 12) {
                int due = made == null ? Check.NO : Check.STATE;
                longTexts += made == null ? 0 : 1;
                check.due("text of " + word, Check.text(x), "" + due);
                check.due("ways of " + word, x.ways(), due);
                check.due("kept of " + word, x.kept(0), word.isEmpty() ? Check.OUTSIDE : due);
                return;
            }
            check.due("text of " + word, Check.text(x), made.text());
            int[] keeping = new int[6];
            int ways = walk(word, made.text(), made.cost(), 0, keeping, word.length());
            check.due("ways of " + word, x.ways(), ways);
            for (int i = 0; i < word.length(); i++) {
                check.due("kept " + i + " of " + word, x.kept(i), keeping[i] == 0 ? 0 : keeping[i] == ways ? 2 : 1);
            }
        }

        /** All rows of pairs of what is left of both that cost what is left, and the letters that they keep. */
        private int walk(String word, String text, int left, int kept, int[] keeping, int letters) {
            int more = word.length() - text.length();
            if (left < (more > 0 ? more * costs[0] : -more * costs[1])) {
                return 0;
            }
            if (word.isEmpty() && text.isEmpty()) {
                for (int i = 0; i < 6 && left == 0; i++) {
                    keeping[i] += kept >> i & 1;
                }
                return left == 0 ? 1 : 0;
            }
            int ways = 0;
            if (!word.isEmpty()) {
                ways += walk(word.substring(1), text, left - costs[0], kept, keeping, letters);
            }
            if (!text.isEmpty()) {
                ways += walk(word, text.substring(1), left - costs[1], kept, keeping, letters);
            }
            if (!word.isEmpty() && !text.isEmpty()) {
                boolean same = word.charAt(0) == text.charAt(0);
                int bit = same ? 1 << letters - word.length() : 0;
                ways += walk(word.substring(1), text.substring(1), left - (same ? 0 : costs[2]), kept | bit, keeping,
                        letters);
            }
            return ways;
        }

        private int total(Map<Character, List<String>> of, List<String> words) {
            int sum = 0;
            for (String word : words) {
                Derived.Made made = new Derived(of, word, costs).of(start, 0, word.length());
                if (made == null) {
                    return Check.NO;
                }
                sum += made.cost();
            }
            return sum;
        }

        private void ofMore(MendTexts x, char name, List<String> words) {
            List<String> candidates = new ArrayList<>(List.of("", "a", "b", "c", "d", "A", "B", "C", "D", "E", "F"));
            for (String pair : "aa ab ac ad ba bb bc bd ca cb cc cd da db dc dd".split(" ")) {
                candidates.add(pair);
            }
            String best = null;
            int least = Check.NO;
            for (String candidate : candidates) {
                Map<Character, List<String>> with = new HashMap<>(rules);
                List<String> own = new ArrayList<>(rules.getOrDefault(name, List.of()));
                own.add(candidate);
                with.put(name, own);
                int sum = total(with, words);
                if (sum != Check.NO && (best == null || sum < least)) {
                    best = candidate;
                    least = sum;
                }
            }
            check.due("more " + name + " of " + words, x.more(name - 'A', 0), least);
            check.due("its signs", x.more(name - 'A', 1), best == null ? Check.NO : best.length());
            for (int i = 0; i < 2; i++) {
                int due = best == null ? Check.NO : Check.NONE;
                if (best != null && i < best.length()) {
                    char sign = best.charAt(i);
                    due = sign >= 'a' ? sign - 'a' : sign - 'A' + 10;
                }
                check.due("its sign " + i, x.more(name - 'A', 2 + i), due);
            }
        }
    }
}
