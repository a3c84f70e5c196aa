/** Promises 17 to 22: examples, near words, totals, the one rule more, what is told. */
final class ExampleTest {
    private static final Check check = new Check();

    public static void main(String[] args) {
        examples();
        nears();
        totals();
        mores();
        moresByNames();
        moresKeepTheGrammar();
        tolds();
        check.end("ExampleTest");
    }

    private static void examples() {
        MendTexts x = new MendTexts();
        check.due("forget none", x.forget(), 0);
        check.due("the empty word as an example", x.example(), 0);
        Check.word(x, "abcdab");
        check.due("example", x.example(), 1);
        check.due("the same one again", x.example(), 2);
        check.due("full", x.example(), Check.FULL);
        check.due("told 4", x.told(4), 3);
        check.due("the word stays", x.told(3), 6);
        check.due("forget", x.forget(), 3);
        check.due("told 4", x.told(4), 0);
        check.due("near is unknown now", x.near(0, 0), Check.UNKNOWN);
        check.due("example", x.example(), 0);
        Check.word(x, "d");
        check.due("example", x.example(), 1);
        check.due("the first one is as it was", x.near(0, 1), 5);
    }

    private static void nears() {
        MendTexts x = new MendTexts();
        Check.examples(x, "abc", "bcd", "");
        check.due("near", x.near(0, 1), 2);
        check.due("near", x.near(1, 0), 2);
        check.due("near itself", x.near(1, 1), 0);
        check.due("near the empty one", x.near(0, 2), 3);
        x.cost(0, 4);
        x.cost(1, 7);
        x.cost(2, 9);
        check.due("all are dropped", x.near(0, 2), 12);
        check.due("all are put", x.near(2, 0), 21);
        check.due("drop and put", x.near(0, 1), 11);
        x.cost(2, 3);
        check.due("three changes", x.near(0, 1), 9);
        for (int wrong : new int[] {-1, 3, Integer.MIN_VALUE, Integer.MAX_VALUE}) {
            check.due("no example", x.near(wrong, 0), Check.UNKNOWN);
            check.due("no example", x.near(0, wrong), Check.UNKNOWN);
        }
        x.forget();
        Check.examples(x, "abcd", "dabc");
        x.cost(0, 1);
        x.cost(1, 2);
        check.due("a letter goes and comes", x.near(0, 1), 3);
        check.due("no third example", x.near(0, 2), Check.UNKNOWN);
    }

    private static void totals() {
        MendTexts x = new MendTexts();
        check.due("no examples, nothing", x.total(), 0);
        x.example();
        check.due("examples, nothing", x.total(), Check.NO);
        Check.grammar(x, "B=A;A=aAb|_");
        check.due("total", x.total(), 0);
        Check.examples(x, "abb", "ba");
        check.due("total", x.total(), 3);
        Check.word(x, "cccccc");
        check.due("the mend is of the word, not of an example", x.mend(0, 0, 6), 6);
        check.due("the word does not matter", x.total(), 3);
        check.due("the word is not of A", x.is(0), 0);
        x.cost(0, 2);
        check.due("total by costs", x.total(), 1 + 2);
        Check.grammar(x, "B=C;A=aAb|_");
        check.due("total of nothing", x.total(), Check.NO);
        x.forget();
        check.due("no examples", x.total(), 0);
    }

    private static void more(MendTexts x, int name, int total, String rule) {
        check.due("more " + name + ", total", x.more(name, 0), total);
        check.due("more " + name + ", signs", x.more(name, 1), rule.length());
        for (int i = 0; i < 2; i++) {
            int due = Check.NONE;
            if (i < rule.length()) {
                char sign = rule.charAt(i);
                due = sign >= 'a' ? sign - 'a' : 10 + sign - 'A';
            }
            check.due("more " + name + ", sign " + i, x.more(name, 2 + i), due);
        }
    }

    private static void none(MendTexts x, int name) {
        for (int what = 0; what < 4; what++) {
            check.due("more " + name + ", " + what, x.more(name, what), Check.NO);
        }
    }

    private static void mores() {
        MendTexts x = new MendTexts();
        check.due("no examples", x.more(0, 0), Check.STATE);
        check.due("UNKNOWN ahead of OUTSIDE", x.more(6, 4), Check.UNKNOWN);
        check.due("OUTSIDE ahead of STATE", x.more(0, 4), Check.OUTSIDE);
        check.due("OUTSIDE ahead of STATE", x.more(0, -1), Check.OUTSIDE);
        check.due("UNKNOWN", x.more(-1, 0), Check.UNKNOWN);
        check.due("STATE ahead of NO", x.more(1, 0), Check.STATE);
        Check.examples(x, "dc");
        more(x, 0, 0, "dc");
        check.due("the start comes to nothing by each", x.more(1, 0), Check.NO);
        check.due("the start comes to nothing by each", x.more(1, 3), Check.NO);
        check.due("OUTSIDE ahead of NO", x.more(1, 5), Check.OUTSIDE);
        Check.examples(x, "d");
        more(x, 0, 1, "d");
        x.forget();
        Check.examples(x, "");
        more(x, 0, 0, "");
        x.forget();
        Check.examples(x, "a", "b");
        more(x, 0, 1, "a");
        x.forget();
        Check.examples(x, "b", "a");
        more(x, 0, 1, "a");
        x.forget();
        Check.examples(x, "cba");
        more(x, 0, 1, "ba");
        x.cost(0, 9);
        more(x, 0, 9, "ba");
        x.cost(2, 3);
        more(x, 0, 9, "ba");
        Check.grammar(x, "A=a|b|c|ddd");
        check.due("total with four rules", x.total(), 9);
        more(x, 0, 9, "");
        Check.grammar(x, "A=abcd");
        x.cost(2, 1);
        check.due("total", x.total(), 4 - 1);
        more(x, 0, 3, "");
    }

    private static void moresByNames() {
        MendTexts x = new MendTexts();
        Check.grammar(x, "A=aAb|aCb;B=cc");
        Check.examples(x, "aaccbb", "accb");
        more(x, 0, 0, "B");
        none(x, 1);
        more(x, 2, 0, "B");
        x.forget();
        Check.examples(x, "acccb");
        more(x, 2, 1, "B");
        x.forget();
        Check.examples(x, "aadabb");
        more(x, 2, 0, "da");
        Check.grammar(x, "A=B;B=aB|B;C=_");
        x.forget();
        Check.examples(x, "aab");
        more(x, 1, 0, "b");
        more(x, 0, 1, "aa");
        none(x, 3);
        // A name that takes itself: its words may stand in each other's place.
        Check.grammar(x, "A=aAb|_;F=AA");
        x.forget();
        Check.examples(x, "abab", "aabbab");
        more(x, 0, 0, "F");
    }

    private static void moresKeepTheGrammar() {
        MendTexts x = Check.of("A=ab|B;C=c", "dd");
        Check.examples(x, "dd");
        more(x, 1, 0, "dd");
        check.due("B has no rules", x.told(11), 0);
        check.due("B has no rules", x.rule(1, 0, -1), Check.UNKNOWN);
        check.due("the names told", x.told(1), 5);
        check.due("B comes to nothing", x.nothing(), 2 + 8 + 16 + 32);
        check.due("the total is as it was", x.total(), 2);
        check.due("the mend is as it was", x.mend(0, 0, 2), 2);
        check.due("the word is not of A", x.is(0), 0);
        check.due("the word is not of A", x.first(0), 1);
        // Each change is followed.
        more(x, 1, 0, "dd");
        x.forget();
        check.due("no examples", x.more(1, 0), Check.STATE);
        Check.examples(x, "c");
        more(x, 1, 0, "c");
        Check.grammar(x, "A=B");
        more(x, 1, 0, "c");
        more(x, 0, 0, "c");
        Check.examples(x, "cc", "cc");
        more(x, 0, 1, "cc");
        x.forget();
        Check.examples(x, "aaa");
        more(x, 0, 1, "aa");
        check.due("the same word once more", x.example(), 1);
        more(x, 0, 2, "aa");
        x.forget();
        check.due("no examples", x.more(0, 0), Check.STATE);
        Check.word(x, "b");
        check.due("another example", x.example(), 0);
        more(x, 0, 0, "b");
        check.due("and once more", x.example(), 1);
        check.due("and once more", x.example(), 2);
        more(x, 0, 0, "b");
        x.forget();
        Check.examples(x, "c", "cc", "cc");
        x.cost(1, 9);
        x.cost(0, 2);
        more(x, 0, 4, "c");
    }

    private static void tolds() {
        MendTexts x = Check.of("C=a|b;A=_|a|b|C;F=A", "abc");
        Check.examples(x, "ab", "c");
        x.cost(0, 7);
        x.cost(1, 8);
        x.cost(2, 9);
        Check.say(x, "A=a|b");
        int[] due = {5, 37, 2, 1, 2, 7, 8, 9, Check.OUTSIDE, Check.OUTSIDE, 4, 0, 2, 0, 0, 1, Check.OUTSIDE};
        for (int what = 0; what < due.length; what++) {
            check.due("told " + what, x.told(what), due[what]);
        }
        check.due("told -1", x.told(-1), Check.OUTSIDE);
        check.due("told least", x.told(Integer.MIN_VALUE), Check.OUTSIDE);
        check.due("told most", x.told(Integer.MAX_VALUE), Check.OUTSIDE);
    }
}
