import java.util.Map;
import java.util.Random;
import java.util.TreeMap;

/** Runs of calls made by chance (of told seeds), each answer compared with the plainest doing of it. */
final class NaiveTest {
    private static final Check check = new Check();
    private static final Map<String, int[]> sure = new TreeMap<>();

    public static void main(String[] args) {
        int runs = args.length > 1 ? Integer.parseInt(args[1]) : 300;
        for (int seed = 1; seed <= runs; seed++) {
            new Run(seed).all();
        }
        for (String call : sure.keySet()) {
            int[] counts = sure.get(call);
            check.holds(call + " was compared often enough: " + counts[0] + " of " + counts[1],
                    counts[0] * 3 > counts[1]);
        }
        check.end("NaiveTest");
    }

    private static final class Run {
        final int seed;
        final Random chance;
        final MendTexts x = new MendTexts();
        final Naive naive = new Naive();
        final StringBuilder story = new StringBuilder();

        Run(int seed) {
            this.seed = seed;
            this.chance = new Random(seed);
        }

        void all() {
            for (int part = 0; part < 5; part++) {
                String signs = grammar();
                sayAll(signs);
                compare("fault", x.fault(), naive.fault());
                compare("grammar", x.grammar(), naive.grammar());
                compare("wipe", x.wipe(), naive.wipe());
                ofGrammar();
                for (int i = 0; i < 3; i++) {
                    oneWord();
                }
            }
        }

        void sayAll(String signs) {
            story.append(' ').append(signs);
            for (int i = 0; i < signs.length(); i++) {
                compare("say", x.say(signs.charAt(i)), naive.say(signs.charAt(i)));
            }
        }

        int below(int bound) {
            return chance.nextInt(bound);
        }

        /** Mostly a grammar, now and then with a sign changed. */
        String grammar() {
            StringBuilder signs = new StringBuilder();
            String names = below(4) == 0 ? "FBDACE" : "ABCDEF";
            int count = 1 + below(below(3) == 0 ? 6 : 3);
            for (int n = 0; n < count; n++) {
                signs.append(n > 0 ? ";" : "").append(names.charAt(n)).append('=');
                int rules = 1 + below(below(3) == 0 ? 4 : 3);
                for (int r = 0; r < rules; r++) {
                    signs.append(r > 0 ? "|" : "").append(rule(names, count, n));
                }
            }
            if (below(6) == 0) {
                signs.setCharAt(below(signs.length()), "A=|;_abF?".charAt(below(9)));
            }
            return signs.substring(0, Math.min(62, signs.length()));
        }

        String rule(String names, int count, int n) {
            if (below(7) == 0) {
                return "_";
            }
            StringBuilder rule = new StringBuilder();
            int length = 1 + below(below(3) == 0 ? 4 : 3);
            int letters = 1 + below(4);
            for (int i = 0; i < length; i++) {
                boolean name = below(5) < 2;
                int back = below(3) == 0 ? 0 : n;
                int which = Math.min(5, back + below(Math.max(1, count - back + (below(8) == 0 ? 1 : 0))));
                rule.append(name ? names.charAt(which) : (char) ('a' + below(letters)));
            }
            return rule.toString();
        }

        void ofGrammar() {
            compare("nothing", x.nothing(), naive.nothing());
            for (int name = 0; name < 6; name++) {
                compare("least", x.least(name, -1), naive.least(name, -1));
                int j = below(8);
                compare("least", x.least(name, j), naive.least(name, j));
                int i = below(5) - 1;
                int k = below(6) - 1;
                compare("rule", x.rule(name, i, k), naive.rule(name, i, k));
            }
            int what = below(20) - 2;
            compare("told", x.told(what), naive.told(what));
        }

        void oneWord() {
            StringBuilder letters = new StringBuilder();
            int length = below(8);
            int kinds = 1 + below(4);
            for (int i = 0; i < length; i++) {
                letters.append((char) ('a' + below(kinds)));
            }
            sayAll(letters.toString());
            compare("word", x.word(), naive.word());
            compare("wipe", x.wipe(), naive.wipe());
            if (below(3) == 0) {
                int which = below(4);
                int value = below(3) == 0 ? below(11) : 1 + below(3);
                story.append(" cost").append(which).append(',').append(value);
                compare("cost", x.cost(which, value), naive.cost(which, value));
            }
            if (below(12) == 0) {
                compare("forget", x.forget(), naive.forget());
            }
            compareWord();
            if (below(2) == 0) {
                compare("example", x.example(), naive.example());
            }
            compareExamples();
        }

        void compareWord() {
            int name = below(6);
            compare("is", x.is(name), naive.is(name));
            compare("first", x.first(name), naive.first(name));
            compare("is", x.is(0), naive.is(0));
            compare("first", x.first(0), naive.first(0));
            int from = below(4);
            int till = below(8) - 1;
            compare("mend", x.mend(0, from, till), naive.mend(0, from, till));
            compare("mend", x.mend(name, from, till), naive.mend(name, from, till));
            for (int j = -2; j < 9; j++) {
                compare("text", x.text(j), naive.text(j));
            }
            compare("ways", x.ways(), naive.ways());
            for (int i = -1; i < 7; i++) {
                compare("kept", x.kept(i), naive.kept(i));
            }
        }

        void compareExamples() {
            int a = below(4) - 1 + below(2);
            int b = below(4) - 1 + below(2);
            compare("near", x.near(a, b), naive.near(a, b));
            compare("total", x.total(), naive.total());
            if (below(6) == 0) {
                int name = below(4) - below(2);
                int due = naive.more(name, 0);
                compare("more", x.more(name, 0), due);
                for (int what = 1; due != Naive.UNSURE && what < 4; what++) {
                    compare("more", x.more(name, what), naive.more(name, what));
                }
            }
        }

        void compare(String call, int got, int due) {
            int[] counts = sure.computeIfAbsent(call, name -> new int[2]);
            counts[1]++;
            if (due != Naive.UNSURE) {
                counts[0]++;
                check.due("seed " + seed + " (" + story + ") " + call, got, due);
            }
        }
    }
}
