import java.util.ArrayList;
import java.util.List;
import java.util.Map;
import java.util.TreeMap;

/**
 * "Calls that are refused answer, the first of these that fits: UNKNOWN,
 * OUTSIDE, STATE, FULL, NO. They change nothing.": each refused call, in
 * objects of several kinds, and all that can be seen of the object behind it.
 * No object is used for more than 512 calls.
 */
final class EdgeRefusalTest {
    private static final Check check = new Check();
    private static final int PARTS = 6;
    private static final String MIN = " " + Integer.MIN_VALUE, MAX = " " + Integer.MAX_VALUE;
    private static final String SIXTY = "A=aaaa|bbbb|cccc|dddd;B=aaaa|bbbb|cccc|dddd;C=aaaa|bbbb|dddd";

    private final String kind;
    private final Map<Integer, List<Integer>> untouched = new TreeMap<>();

    private EdgeRefusalTest(String kind) {
        this.kind = kind;
        for (int part = 0; part < PARTS; part++) {
            untouched.put(part, part(made(kind), part));
        }
    }

    public static void main(String[] args) {
        ofNew();
        ofFull();
        ofFaultyPad();
        ofLongWordPad();
        ofNothing();
        ofNotTold();
        asking();
        check.end("EdgeRefusalTest");
    }

    private static MendTexts made(String kind) {
        MendTexts x = new MendTexts();
        switch (kind) {
            case "new":
                return x;
            case "nothing":
                Check.grammar(x, "B=aB|C;A=cAd|_|ab");
                break;
            case "not told":
                Check.grammar(x, "A=BBBa;B=abcd");
                break;
            default:
                Check.grammar(x, "B=aAb|C;A=BB|c|_|d");
                break;
        }
        x.cost(0, 2);
        x.cost(1, 3);
        x.cost(2, 4);
        Check.examples(x, "abc", "cab");
        if (!kind.equals("nothing")) {
            Check.examples(x, "dd");
        }
        Check.word(x, "aacb");
        Check.say(x, kind.equals("full") ? SIXTY : kind.equals("long word") ? "abcdabc" : "D=abAF|_;C=D=");
        return x;
    }

    /** A part of all that can be seen of an object. */
    private static List<Integer> part(MendTexts x, int part) {
        List<Integer> all = new ArrayList<>();
        for (int what = 0; what <= 15; what++) {
            all.add(x.told(what));
        }
        switch (part) {
            case 0:
                addRules(all, x);
                break;
            case 1:
                addWords(all, x);
                break;
            case 2:
                addMends(all, x);
                break;
            case 3:
                addExamples(all, x);
                break;
            case 4:
                addPad(all, x, x.fault(), x.grammar());
                break;
            default:
                addPad(all, x, x.fault(), x.word());
                break;
        }
        return all;
    }

    private static void addRules(List<Integer> all, MendTexts x) {
        for (int name = 0; name < 6; name++) {
            for (int i = 0; i < x.told(10 + name); i++) {
                for (int j = -1; j < 5; j++) {
                    all.add(x.rule(name, i, j));
                }
            }
        }
    }

    private static void addWords(List<Integer> all, MendTexts x) {
        all.add(x.nothing());
        for (int name = 0; name < 6; name++) {
            all.add(x.is(name));
            all.add(x.first(name));
            for (int j = -1; j < 6; j++) {
                all.add(x.least(name, j));
            }
        }
    }

    private static void addMends(List<Integer> all, MendTexts x) {
        for (int name = 0; name < 3; name++) {
            for (int from = 0; from <= x.told(3); from++) {
                for (int till = from; till <= x.told(3); till++) {
                    all.add(x.mend(name, from, till));
                }
            }
        }
        all.add(x.ways());
        for (int j = -1; j < 6; j++) {
            all.add(x.text(j));
            all.add(x.kept(j));
        }
    }

    private static void addExamples(List<Integer> all, MendTexts x) {
        all.add(x.total());
        for (int a = 0; a < 3; a++) {
            for (int b = 0; b < 3; b++) {
                all.add(x.near(a, b));
            }
        }
        for (int name = 0; name < 6; name++) {
            for (int what = 0; what < 4; what++) {
                all.add(x.more(name, what));
            }
        }
    }

    /** The signs of the pad, by what becomes of them. */
    private static void addPad(List<Integer> all, MendTexts x, int fault, int taken) {
        all.add(fault);
        all.add(taken);
        all.add(x.told(0));
        addRules(all, x);
        all.add(x.ways());
        for (int j = -1; j < 6; j++) {
            all.add(x.text(j));
        }
        Check.word(x, "abcdab");
        all.add(x.example());
        Check.word(x, "ab");
        all.add(x.example());
        all.add(x.near(0, 2));
        all.add(x.near(2, 1));
    }

    private static int ask(MendTexts x, String call) {
        String[] words = call.split(" +");
        int[] n = new int[4];
        for (int i = 1; i < words.length; i++) {
            n[i] = Integer.parseInt(words[i]);
        }
        switch (words[0]) {
            case "say": return x.say(n[1]);
            case "fault": return x.fault();
            case "grammar": return x.grammar();
            case "rule": return x.rule(n[1], n[2], n[3]);
            case "least": return x.least(n[1], n[2]);
            case "nothing": return x.nothing();
            case "word": return x.word();
            case "is": return x.is(n[1]);
            case "first": return x.first(n[1]);
            case "cost": return x.cost(n[1], n[2]);
            case "mend": return x.mend(n[1], n[2], n[3]);
            case "text": return x.text(n[1]);
            case "ways": return x.ways();
            case "kept": return x.kept(n[1]);
            case "example": return x.example();
            case "near": return x.near(n[1], n[2]);
            case "total": return x.total();
            case "more": return x.more(n[1], n[2]);
            case "told": return x.told(n[1]);
            default: throw new IllegalArgumentException(call);
        }
    }

    /** The call is refused so, twice, and all is as it was, asked for the first time and once more. */
    private void refused(String call, int due) {
        check.sentence("Terms: refused, in a \"" + kind + "\" object");
        MendTexts x = made(kind);
        check.due(call, ask(x, call), due);
        check.due(call + ", again", ask(x, call), due);
        same(call);
    }

    private void same(String call) {
        for (int part = 0; part < PARTS; part++) {
            MendTexts x = made(kind);
            ask(x, call);
            check.holds(call + " changes nothing, part " + part, part(x, part).equals(untouched.get(part)));
            if (part < 4) {
                ask(x, call);
                check.holds(call + " changes nothing later on, part " + part,
                        part(x, part).equals(untouched.get(part)));
            }
        }
    }

    private void all(int due, String... calls) {
        for (String call : calls) {
            refused(call, due);
        }
    }

    private static void ofNew() {
        EdgeRefusalTest of = new EdgeRefusalTest("new");
        of.all(Check.OUTSIDE, "say 32", "say 127", "say 0", "say -1", "say" + MIN, "say" + MAX);
        of.all(Check.NO, "grammar", "mend 0 0 0", "mend 5 0 0", "text -1", "text 0", "ways");
        of.all(Check.UNKNOWN, "rule 0 0 -1", "rule 5 0 0", "rule -1 0 0", "rule 6 0 0", "near 0 0", "least -1 0",
                "least 6 0", "is -1", "is 6", "first -1", "first 6", "mend -1 0 0", "mend 6 0 0", "more -1 0",
                "more 6 0");
        of.all(Check.OUTSIDE, "mend 0 0 1", "mend 0 1 1", "mend 0 -1 0", "kept 0", "kept -1", "cost 0 0", "cost 0 10",
                "cost -1 1", "cost 3 1", "told 8", "told -1", "more 0 4", "more 0 -1");
        of.all(Check.STATE, "more 0 0", "more 5 3");
    }

    private static void ofFull() {
        EdgeRefusalTest of = new EdgeRefusalTest("full");
        of.all(Check.OUTSIDE, "say 32", "say 127", "say" + MIN, "say" + MAX);
        of.all(Check.FULL, "say 33", "say 126", "say 97", "say 65", "example");
        of.all(Check.NO, "word", "mend 2 0 4", "mend 3 4 4", "mend 5 0 0");
        of.all(Check.UNKNOWN, "rule 1 2 0", "rule 0 4 -1", "rule 2 0 0", "rule 1 -1 0", "rule -1 0 0", "rule 6 0 0",
                "rule" + MIN + " 0 0", "rule" + MAX + " 0 0", "rule 0" + MIN + " 0", "rule 0" + MAX + " 0");
        of.all(Check.UNKNOWN, "least -1 -1", "least 6 -1", "least" + MIN + MIN, "least" + MAX + MAX, "is -1", "is 6",
                "is" + MIN, "is" + MAX, "first -1", "first 6", "first" + MIN, "first" + MAX);
        of.all(Check.UNKNOWN, "mend -1 0 4", "mend 6 0 4", "mend 6 3 2", "mend" + MIN + MIN + MIN,
                "mend" + MAX + MAX + MAX, "near -1 0", "near 0 -1", "near 3 0", "near 0 3", "near" + MIN + MAX);
        of.all(Check.OUTSIDE, "mend 0 -1 4", "mend 0 3 2", "mend 0 0 5", "mend 0 5 5", "mend 2 0 5", "mend 0" + MIN
                + MAX, "mend 0" + MAX + MIN, "kept -1", "kept 4", "kept" + MIN, "kept" + MAX);
        of.all(Check.OUTSIDE, "cost -1 5", "cost 3 5", "cost 0 0", "cost 1 0", "cost 2 0", "cost 0 10", "cost 1 10",
                "cost 2 10", "cost 0 -1", "cost 0" + MIN, "cost 1" + MAX, "cost" + MIN + " 1", "cost" + MAX + " 1");
        of.all(Check.UNKNOWN, "more -1 0", "more 6 0", "more 6 4", "more -1 -1", "more" + MIN + MIN);
        of.all(Check.OUTSIDE, "more 0 -1", "more 0 4", "more 5 4", "more 1" + MIN, "more 1" + MAX, "told -1", "told 8",
                "told 9", "told 16", "told" + MIN, "told" + MAX);
    }

    private static void ofFaultyPad() {
        EdgeRefusalTest of = new EdgeRefusalTest("faulty pad");
        of.all(Check.NO, "grammar", "word", "mend 2 0 4");
        of.all(Check.OUTSIDE, "say 32", "say 127");
        of.all(Check.FULL, "example");
    }

    private static void ofLongWordPad() {
        EdgeRefusalTest of = new EdgeRefusalTest("long word");
        of.all(Check.NO, "grammar", "word");
        of.all(Check.FULL, "example");
    }

    private static void ofNothing() {
        EdgeRefusalTest of = new EdgeRefusalTest("nothing");
        of.all(Check.NO, "text -1", "text 0", "text -2", "text 13", "text" + MIN, "text" + MAX, "ways", "kept 0",
                "kept 3", "total", "more 0 0", "more 0 3", "more 3 1", "mend 1 0 4", "mend 1 2 2");
        of.all(Check.OUTSIDE, "kept -1", "kept 4", "mend 1 0 5", "more 0 4", "more 0 -1");
        of.all(Check.UNKNOWN, "more 6 4", "more -1 0", "mend 6 0 5", "near 0 2");
        check.due("a rule more for START", made("nothing").more(1, 0), 4);
    }

    private static void ofNotTold() {
        EdgeRefusalTest of = new EdgeRefusalTest("not told");
        of.all(Check.STATE, "text -1", "text 0", "text -2", "text 12", "text 13", "text" + MIN, "text" + MAX, "ways",
                "kept 0", "kept 3");
        of.all(Check.OUTSIDE, "kept -1", "kept 4", "kept" + MAX);
        of.all(Check.NO, "mend 2 0 4");
    }

    /** Calls that only ask change nothing either. */
    private static void asking() {
        for (String kind : List.of("new", "full", "faulty pad", "long word", "nothing", "not told")) {
            EdgeRefusalTest of = new EdgeRefusalTest(kind);
            check.sentence("the calls that ask change nothing, in a \"" + kind + "\" object");
            for (String call : List.of("fault", "rule 0 0 0", "rule 1 1 -1", "rule 0 0 9", "least 0 -1", "least 1 0",
                    "least 5 2", "nothing", "is 0", "is 1", "first 0", "first 5", "mend 0 0 0", "mend 0 1 3",
                    "mend 1 0 4", "text -1", "text 1", "text 9", "ways", "kept 0", "kept 3", "near 0 1", "near 2 0",
                    "total", "more 0 0", "more 0 3", "more 1 1", "more 4 2", "told 0", "told 7", "told 12")) {
                of.same(call);
            }
        }
    }
}
