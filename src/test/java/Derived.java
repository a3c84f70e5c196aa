import java.util.List;
import java.util.Map;
import java.util.Set;
import java.util.TreeMap;
import java.util.TreeSet;

/**
 * The least texts of each name for each part of a word, with all their
 * letters, however many: found by trying every rule on every part till nothing
 * gets less. Decides where the lists of Naive end.
 */
final class Derived {
    /** A cost and the word that is made at it. */
    record Made(int cost, String text) {
        boolean before(Made other) {
            if (other == null || cost != other.cost) {
                return other == null || cost < other.cost;
            }
            int longer = text.length() - other.text.length();
            return longer != 0 ? longer < 0 : text.compareTo(other.text) < 0;
        }
    }

    private final Map<Character, List<String>> rules;
    private final String word;
    private final int[] costs;
    private final Map<String, Made> least = new TreeMap<>();

    Derived(Map<Character, List<String>> rules, String word, int[] costs) {
        this.rules = rules;
        this.word = word;
        this.costs = costs;
        boolean again = true;
        while (again) {
            again = false;
            for (char name : rules.keySet()) {
                for (String rule : rules.get(name)) {
                    again |= lessen(name, rule);
                }
            }
        }
    }

    private boolean lessen(char name, String rule) {
        boolean less = false;
        for (int from = 0; from <= word.length(); from++) {
            for (int till = from; till <= word.length(); till++) {
                Made made = byRule(rule, from, till);
                if (made != null && made.before(of(name, from, till))) {
                    least.put("" + name + from + till, made);
                    less = true;
                }
            }
        }
        return less;
    }

    /** The least text of a name for a part; null: the name comes to nothing. */
    Made of(char name, int from, int till) {
        return least.get("" + name + from + till);
    }

    private Made byRule(String rule, int from, int till) {
        if (rule.isEmpty()) {
            return new Made((till - from) * costs[0], "");
        }
        Made best = null;
        for (int at = from; at <= till; at++) {
            Made head = bySign(rule.charAt(0), from, at);
            Made tail = head == null ? null : byRule(rule.substring(1), at, till);
            if (tail != null) {
                Made both = new Made(head.cost + tail.cost, head.text + tail.text);
                best = both.before(best) ? both : best;
            }
        }
        return best;
    }

    private Made bySign(char sign, int from, int till) {
        if (sign <= 'F') {
            return of(sign, from, till);
        }
        int cost = (till - from) * costs[0] + costs[1];
        for (int at = from; at < till; at++) {
            cost = Math.min(cost, (till - from - 1) * costs[0] + (word.charAt(at) == sign ? 0 : costs[2]));
        }
        return new Made(cost, "" + sign);
    }

    /** FIRST; -6: none. */
    static int first(Map<Character, List<String>> rules, char name, String word) {
        for (int count = 0; count <= word.length(); count++) {
            if (!begins(rules, name, word.substring(0, count))) {
                return count;
            }
        }
        return -6;
    }

    /**
     * Whether some word of the name begins so: it leads from place 0 to the
     * last place, at which each letter more may come.
     */
    private static boolean begins(Map<Character, List<String>> rules, char name, String head) {
        Set<String> paths = new TreeSet<>();
        boolean again = true;
        while (again) {
            again = false;
            for (char one : rules.keySet()) {
                for (String rule : rules.get(one)) {
                    for (int from = 0; from <= head.length(); from++) {
                        for (int till : ends(rule, from, head, paths)) {
                            again |= paths.add("" + one + from + till);
                        }
                    }
                }
            }
        }
        return paths.contains("" + name + 0 + head.length());
    }

    private static Set<Integer> ends(String rule, int from, String head, Set<String> paths) {
        Set<Integer> places = new TreeSet<>(Set.of(from));
        for (char sign : rule.toCharArray()) {
            Set<Integer> next = new TreeSet<>();
            for (int place : places) {
                for (int till = place; till <= head.length(); till++) {
                    if (leads(sign, place, till, head, paths)) {
                        next.add(till);
                    }
                }
            }
            places = next;
        }
        return places;
    }

    private static boolean leads(char sign, int place, int till, String head, Set<String> paths) {
        if (sign <= 'F') {
            return paths.contains("" + sign + place + till);
        }
        return place == head.length() || till == place + 1 && head.charAt(place) == sign;
    }
}
