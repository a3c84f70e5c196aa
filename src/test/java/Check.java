import java.util.ArrayList;
import java.util.List;

/** What the tests share: counting wrong answers, and calls that a person can read. */
final class Check {
    static final int NONE = -6, UNKNOWN = -1, OUTSIDE = -2, STATE = -3, FULL = -4, NO = -5;

    private int wrong = 0;
    private int asked = 0;
    private String sentence = "";

    /** The sentence of the document that the next answers are asked for. */
    void sentence(String words) {
        sentence = words + " -- ";
    }

    void due(String call, int got, int want) {
        asked++;
        if (got != want) {
            wrong++;
            if (wrong <= 40) {
                System.out.println(sentence + call + " answered " + got + ", due is " + want);
            }
        }
    }

    void due(String call, String got, String want) {
        holds(call + " is " + want + ", not " + got, got.equals(want));
    }

    void holds(String what, boolean so) {
        asked++;
        if (!so) {
            wrong++;
            if (wrong <= 40) {
                System.out.println(sentence + "not so: " + what);
            }
        }
    }

    void end(String name) {
        System.out.println(name + ": " + asked + " asked, " + wrong + " wrong");
        if (wrong != 0 || asked == 0) {
            System.exit(1);
        }
    }

    static void say(MendTexts x, String signs) {
        for (int i = 0; i < signs.length(); i++) {
            x.say(signs.charAt(i));
        }
    }

    static int grammar(MendTexts x, String signs) {
        x.wipe();
        say(x, signs);
        return x.grammar();
    }

    static int word(MendTexts x, String signs) {
        x.wipe();
        say(x, signs);
        return x.word();
    }

    static int fault(String signs) {
        MendTexts x = new MendTexts();
        say(x, signs);
        return x.fault();
    }

    static void examples(MendTexts x, String... words) {
        for (String word : words) {
            word(x, word);
            x.example();
        }
    }

    static MendTexts of(String grammar, String word) {
        MendTexts x = new MendTexts();
        grammar(x, grammar);
        word(x, word);
        return x;
    }

    /** The text as letters; the refusal's number where there is none. */
    static String text(MendTexts x) {
        int length = x.text(-1);
        if (length < 0) {
            return "" + length;
        }
        StringBuilder letters = new StringBuilder();
        for (int j = 0; j < length; j++) {
            letters.append((char) ('a' + x.text(j)));
        }
        return letters.toString();
    }

    static String least(MendTexts x, int name) {
        int length = x.least(name, -1);
        if (length < 0) {
            return "" + length;
        }
        StringBuilder letters = new StringBuilder();
        for (int j = 0; j < length; j++) {
            letters.append((char) ('a' + x.least(name, j)));
        }
        return letters.toString();
    }

    static String kept(MendTexts x) {
        StringBuilder all = new StringBuilder();
        for (int i = 0; i < x.told(3); i++) {
            all.append(x.kept(i));
        }
        return all.toString();
    }

    /** Every answer that a call which changes nothing can give. */
    static List<Integer> everything(MendTexts x) {
        List<Integer> all = new ArrayList<>();
        for (int what = -2; what < 20; what++) {
            all.add(x.told(what));
        }
        all.add(x.fault());
        all.add(x.nothing());
        all.add(x.ways());
        all.add(x.total());
        for (int j = -2; j < 14; j++) {
            all.add(x.text(j));
            all.add(x.kept(j));
        }
        for (int name = -1; name < 7; name++) {
            addOfName(all, x, name);
        }
        for (int a = -1; a < 4; a++) {
            for (int b = -1; b < 4; b++) {
                all.add(x.near(a, b));
            }
        }
        return all;
    }

    private static void addOfName(List<Integer> all, MendTexts x, int name) {
        all.add(x.is(name));
        all.add(x.first(name));
        for (int i = -1; i < 5; i++) {
            for (int j = -1; j < 5; j++) {
                all.add(x.rule(name, i, j));
            }
        }
        for (int j = -2; j < 14; j++) {
            all.add(x.least(name, j));
        }
        for (int from = -1; from < 8; from++) {
            for (int till = -1; till < 8; till++) {
                all.add(x.mend(name, from, till));
            }
        }
        for (int what = -1; what < 5; what++) {
            all.add(x.more(name, what));
        }
    }
}
