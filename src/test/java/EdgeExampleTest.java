/** Each sentence of "Terms" 4 and of promises 17 to 22 that names a boundary, by itself. */
final class EdgeExampleTest {
    private static final Check check = new Check();
    private static final int[] NO_NAMES = {-1, 6, 7, 10, 15, 65, Integer.MIN_VALUE, Integer.MAX_VALUE};
    private static final int[] FAR = {-2, -1, 3, 4, Integer.MIN_VALUE, Integer.MAX_VALUE};
    private static final String SIGNS = "abcdABCDEF";

    public static void main(String[] args) {
        threeAtMost();
        exampleNumbers();
        forgets();
        nearCosts();
        nearUnknown();
        totalTogether();
        totalNothing();
        moreEmpty();
        moreOneSign();
        moreTwoLetters();
        moreOfSeveral();
        moreBesideItsOwn();
        moreSigns();
        moreState();
        moreNo();
        moreUnknownOutside();
        moreChangesNothing();
        moreFollows();
        toldLeastAndMost();
        toldOutside();
        fiveHundredAndTwelve();
        check.end("EdgeExampleTest");
    }

    private static MendTexts of(String grammar, String... examples) {
        MendTexts x = new MendTexts();
        Check.grammar(x, grammar);
        Check.examples(x, examples);
        return x;
    }

    private static void costs(MendTexts x, int drop, int put, int change) {
        x.cost(0, drop);
        x.cost(1, put);
        x.cost(2, change);
    }

    private static void threeAtMost() {
        check.sentence("Terms 4: EXAMPLES, 3 at most. Promise 17: FULL");
        MendTexts x = Check.of("A=a", "a");
        for (int i = 0; i < 3; i++) {
            check.due("examples", x.told(4), i);
            check.due("example", x.example(), i);
        }
        Check.word(x, "bbb");
        for (int i = 0; i < 3; i++) {
            check.due("a fourth example", x.example(), Check.FULL);
            check.due("examples", x.told(4), 3);
            check.due("none of them has changed", x.total(), 0);
        }
        check.due("the word stays", x.told(3), 3);
        check.due("forget", x.forget(), 3);
        check.due("there is room again", x.example(), 0);
        check.due("it is the word", x.total(), 3);
    }

    private static void exampleNumbers() {
        check.sentence("Promise 17: The WORD is an EXAMPLE: its number (the first one 0)");
        MendTexts x = new MendTexts();
        check.due("the empty word", x.example(), 0);
        Check.word(x, "abcdab");
        check.due("six letters", x.example(), 1);
        check.due("the same again", x.example(), 2);
        check.due("from the first to the second", x.near(0, 1), 6);
        check.due("from the second to the third", x.near(1, 2), 0);
        Check.word(x, "d");
        check.due("another word does not change them", x.near(0, 1), 6);
        check.due("another word does not change them", x.near(1, 2), 0);
        check.due("the word stays the word", x.told(3), 1);
        x.forget();
        x.example();
        Check.word(x, "");
        x.example();
        check.due("shorter ones in their places", x.near(0, 1), 1);
        check.due("the third one is gone", x.near(0, 2), Check.UNKNOWN);
    }

    private static void forgets() {
        check.sentence("Promise 18: EXAMPLES go: how many there were");
        for (int count = 0; count <= 3; count++) {
            MendTexts x = Check.of("A=a|_", "abc");
            x.cost(0, 7);
            x.say('d');
            for (int i = 0; i < count; i++) {
                x.example();
            }
            check.due("forget of " + count, x.forget(), count);
            check.due("examples", x.told(4), 0);
            check.due("forget again", x.forget(), 0);
            check.due("near", x.near(0, 0), Check.UNKNOWN);
            check.due("total", x.total(), 0);
            check.due("more", x.more(0, 0), Check.STATE);
            check.due("the word stays", x.told(3), 3);
            check.due("the grammar stays", x.told(10), 2);
            check.due("the costs stay", x.told(5), 7);
            check.due("the pad stays", x.told(0), 1);
        }
    }

    private static void nearCosts() {
        check.sentence("Terms 3: NEAR of two words: the least cost to make the second one of the first one");
        MendTexts x = of("A=a", "", "abcdab", "ddd");
        costs(x, 9, 7, 8);
        check.due("the empty one of the empty one", x.near(0, 0), 0);
        check.due("six PUTS", x.near(0, 1), 42);
        check.due("six DROPS", x.near(1, 0), 54);
        check.due("three PUTS, two CHANGES", x.near(2, 1), 21 + 16);
        check.due("three DROPS, two CHANGES", x.near(1, 2), 27 + 16);
        check.due("six letters of themselves", x.near(1, 1), 0);
        x.forget();
        Check.examples(x, "aaaaaa", "bbbbbb");
        costs(x, 9, 9, 9);
        check.due("six CHANGES at 9", x.near(0, 1), 54);
        costs(x, 4, 4, 9);
        check.due("DROPS and PUTS", x.near(0, 1), 48);
        costs(x, 1, 1, 1);
        check.due("six CHANGES at 1", x.near(1, 0), 6);
    }

    private static void nearUnknown() {
        check.sentence("Promise 19: UNKNOWN (there is no such EXAMPLE)");
        MendTexts x = new MendTexts();
        for (int count = 0; count <= 3; count++) {
            for (int a = -2; a <= 4; a++) {
                for (int b = -2; b <= 4; b++) {
                    boolean there = a >= 0 && b >= 0 && a < count && b < count;
                    check.due("near " + a + ", " + b + " of " + count, x.near(a, b), there ? 0 : Check.UNKNOWN);
                }
            }
            x.example();
        }
        for (int far : FAR) {
            check.due("near " + far + ", 0", x.near(far, 0), Check.UNKNOWN);
            check.due("near 0, " + far, x.near(0, far), Check.UNKNOWN);
            check.due("near both", x.near(far, far), Check.UNKNOWN);
        }
    }

    private static void totalTogether() {
        check.sentence("Terms 4: TOTAL: MENDS of all of them to START, together");
        MendTexts x = of("B=ab;A=c");
        check.due("none", x.total(), 0);
        Check.examples(x, "ab");
        check.due("one that fits", x.total(), 0);
        Check.examples(x, "abb");
        check.due("two", x.total(), 1);
        Check.examples(x, "");
        check.due("three", x.total(), 3);
        costs(x, 9, 8, 7);
        check.due("three at other costs", x.total(), 9 + 16);
        x.forget();
        Check.examples(x, "c", "c", "c");
        check.due("each counts, the same ones too", x.total(), 3 * 15);
        Check.grammar(x, "A=c;B=ab");
        check.due("to another START", x.total(), 0);
        Check.grammar(x, "A=BBBB;B=CCCC;C=DDDD;D=EEEE;E=FFFF;F=dddd");
        costs(x, 9, 9, 9);
        check.due("the most", x.total(), 3 * 36864);
    }

    private static void totalNothing() {
        check.sentence("Promise 20: NO: START comes to NOTHING, and there are EXAMPLES");
        MendTexts x = new MendTexts();
        check.due("no grammar, no examples", x.total(), 0);
        x.example();
        check.due("no grammar, an example", x.total(), Check.NO);
        Check.grammar(x, "A=aA;B=b");
        check.due("START comes to nothing", x.total(), Check.NO);
        x.example();
        x.example();
        check.due("three examples", x.total(), Check.NO);
        x.forget();
        check.due("START comes to nothing, no examples", x.total(), 0);
        x.example();
        Check.grammar(x, "B=b;A=aA");
        check.due("another name comes to nothing", x.total(), 1);
    }

    /** A rule as letters and names; the refusal's number where there is none. */
    private static String rule(MendTexts x, int name) {
        int length = x.more(name, 1);
        if (length < 0) {
            return "" + length;
        }
        StringBuilder signs = new StringBuilder();
        for (int i = 0; i < 2; i++) {
            int code = x.more(name, 2 + i);
            if (code != Check.NONE) {
                signs.append((char) (code < 10 ? 'a' + code : 'A' + code - 10));
            }
            check.due("there are as many signs as it has, " + i, code == Check.NONE ? 0 : 1, i < length ? 1 : 0);
        }
        return signs.toString();
    }

    private static void more(MendTexts x, int name, int total, String rule) {
        check.due("more " + name, rule(x, name), rule);
        check.due("the total by it", x.more(name, 0), total);
    }

    private static void moreEmpty() {
        check.sentence("Terms 4: MORE: the empty one");
        more(of("A=A", ""), 0, 0, "");
        more(of("A=A", "", "", ""), 0, 0, "");
        more(of("A=abcd", "", "abcd"), 0, 0, "");
        more(of("A=aBcd;B=dddd", "acd"), 1, 0, "");
        // Costs to PUT so great that each letter more is dearer than to DROP all.
        MendTexts x = of("A=A", "", "a");
        costs(x, 1, 9, 9);
        more(x, 0, 1, "");
    }

    private static void moreOneSign() {
        check.sentence("Terms 4: MORE: then one sign (a, b, c, d, A to F)");
        for (int letter = 0; letter < 4; letter++) {
            String sign = SIGNS.substring(letter, letter + 1);
            more(of("A=A", sign), 0, 0, sign);
            more(of("F=aaEa;E=E", "aa" + sign + "a"), 4, 0, sign);
            more(of("F=E", sign), 5, 0, sign);
        }
        for (int name = 0; name < 6; name++) {
            char taken = (char) ('A' + name);
            for (int other = 0; other < 6; other++) {
                char sign = (char) ('A' + other);
                if (name != other) {
                    // START has nothing but the other name to come to six letters.
                    more(of(taken + "=" + taken + ";" + sign + "=abc" + (char) ('A' + third(name, other)) + ";"
                            + (char) ('A' + third(name, other)) + "=dab", "abcdab"), name, 0, "" + sign);
                }
            }
        }
        // The rule of START for another name: what is made can stand in itself.
        more(of("A=aBb|cd", "aacdbb", "cd"), 1, 0, "A");
    }

    private static int third(int one, int other) {
        int third = 0;
        while (third == one || third == other) {
            third++;
        }
        return third;
    }

    private static void moreTwoLetters() {
        check.sentence("Terms 4: MORE: then two LETTERS");
        for (char one = 'a'; one <= 'd'; one++) {
            for (char two = 'a'; two <= 'd'; two++) {
                String rule = "" + one + two;
                more(of("A=A", rule), 0, 0, rule);
                more(of("D=aCd;C=C", "a" + rule + "d"), 2, 0, rule);
            }
        }
        check.due("three letters are no rule more", of("A=A", "abc").more(0, 0), 1);
        check.due("a letter and a name are no rule more", of("A=A;B=dddd", "addddd".substring(0, 5)).more(0, 0), 1);
    }

    private static void moreOfSeveral() {
        check.sentence("Terms 4: MORE: that by which TOTAL is least; of several the first");
        more(of("A=a", "a"), 0, 0, "");
        more(of("A=a", "a"), 1, 0, "");
        more(of("A=abcd", "bcd"), 0, 1, "");
        more(of("A=A", "a", "b"), 0, 1, "a");
        more(of("A=A", "b", "a"), 0, 1, "a");
        more(of("A=A", "c", "b"), 0, 1, "b");
        more(of("A=A", "d", "c"), 0, 1, "c");
        more(of("A=A", "d", "c", "b"), 0, 2, "b");
        more(of("A=A;B=d", "d"), 0, 0, "d");
        more(of("A=A;B=abcd;C=abcd", "abcd"), 0, 0, "B");
        more(of("A=A;C=abcd;B=abcd", "abcd"), 0, 0, "B");
        more(of("B=B;F=abcd;E=abcd", "abcd"), 1, 0, "E");
        more(of("A=A;B=ab", "ab"), 0, 0, "B");
        more(of("A=A;F=ab", "ab"), 0, 0, "F");
        more(of("A=A", "abc"), 0, 1, "ab");
        more(of("A=A", "dcb"), 0, 1, "cb");
        MendTexts x = of("A=A", "ab", "cd");
        costs(x, 9, 9, 1);
        more(x, 0, 2, "ab");
        x = of("A=A", "cd", "ab");
        costs(x, 9, 9, 1);
        more(x, 0, 2, "ab");
        x = of("A=A", "cd", "cb");
        costs(x, 9, 9, 1);
        more(x, 0, 1, "cb");
        x = of("A=A", "db", "cb");
        costs(x, 9, 9, 1);
        more(x, 0, 1, "cb");
        x = of("A=A", "a");
        costs(x, 1, 9, 9);
        check.due("the empty one and a letter", rule(x, 0), "a");
        x = of("A=A", "a", "");
        costs(x, 4, 4, 4);
        more(x, 0, 4, "");
    }

    private static void moreBesideItsOwn() {
        check.sentence("Terms 4: MORE: beside its own (also if it has four, or has that one)");
        MendTexts x = of("A=aaaa|bbbb|cccc|dddd", "ab", "aaaa", "dddd");
        more(x, 0, 0, "ab");
        check.due("it has four", x.told(10), 4);
        check.due("its fourth stays", x.rule(0, 3, 0), 3);
        check.due("no fifth comes", x.rule(0, 4, -1), Check.UNKNOWN);
        more(of("A=a|b|c|_", "dd"), 0, 0, "dd");
        more(of("A=_", ""), 0, 0, "");
        more(of("A=_|a|b|c", "abcd"), 0, 2, "ab");
        more(of("A=_|abcd", "abcd", ""), 0, 0, "");
        more(of("A=b", "b", "b", "b"), 0, 0, "");
        more(of("A=aBa;B=b|c|d|aa", "aa", "aba", "aaaa"), 1, 0, "");
        more(of("A=aBa;B=b|c|d|_", "aaa", "aba", "aa"), 1, 0, "a");
    }

    private static void moreSigns() {
        check.sentence("Promise 21: the TOTAL by it (0), how many signs (1), the first one (2), the second one (3; NONE)");
        MendTexts x = of("A=A", "dc");
        check.due("two letters: total", x.more(0, 0), 0);
        check.due("two letters: signs", x.more(0, 1), 2);
        check.due("two letters: the first", x.more(0, 2), 3);
        check.due("two letters: the second", x.more(0, 3), 2);
        x = of("A=A;F=abcd", "abcd");
        check.due("a name: total", x.more(0, 0), 0);
        check.due("a name: signs", x.more(0, 1), 1);
        check.due("a name: the first", x.more(0, 2), 15);
        check.due("a name: the second", x.more(0, 3), Check.NONE);
        x = of("A=A", "d");
        check.due("a letter: signs", x.more(0, 1), 1);
        check.due("a letter: the first", x.more(0, 2), 3);
        check.due("a letter: the second", x.more(0, 3), Check.NONE);
        x = of("A=A", "");
        check.due("the empty one: total", x.more(0, 0), 0);
        check.due("the empty one: signs", x.more(0, 1), 0);
        check.due("the empty one: the first", x.more(0, 2), Check.NONE);
        check.due("the empty one: the second", x.more(0, 3), Check.NONE);
        x = of("A=A", "aaaaaa", "bbbbbb", "cccccc");
        costs(x, 9, 9, 9);
        check.due("a great total", x.more(0, 0), 36 + 54 + 54);
        check.due("second asked first", of("A=A", "dc").more(0, 3), 2);
    }

    private static void moreState() {
        check.sentence("Promise 21: STATE: no EXAMPLES");
        MendTexts x = Check.of("A=a;B=B", "a");
        for (int name = 0; name < 6; name++) {
            for (int what = 0; what < 4; what++) {
                check.due("more " + name + ", " + what, x.more(name, what), Check.STATE);
                check.due("more of a new object", new MendTexts().more(name, what), Check.STATE);
            }
        }
        x.example();
        check.due("with an example", x.more(0, 0), 0);
        x.forget();
        check.due("without it", x.more(0, 0), Check.STATE);
        check.due("STATE ahead of NO", of("A=A").more(1, 0), Check.STATE);
    }

    private static void moreNo() {
        check.sentence("Promise 21: NO: START comes to NOTHING by each");
        MendTexts x = of("A=aBC;B=B", "a");
        for (int what = 0; what < 4; what++) {
            check.due("C comes to nothing with a rule more of B", x.more(1, what), Check.NO);
            check.due("B comes to nothing with a rule more of C", x.more(2, what), Check.NO);
            check.due("START does not use D", x.more(3, what), Check.NO);
        }
        more(x, 0, 0, "a");
        x = of("A=aB|bC;B=B", "a", "b", "");
        more(x, 1, 2, "");
        more(x, 2, 2, "");
        check.due("START does not use F", x.more(5, 0), Check.NO);
        x = new MendTexts();
        x.example();
        check.due("no grammar: a rule more for START", x.more(0, 0), 0);
        for (int name = 1; name < 6; name++) {
            check.due("no grammar: a rule more for " + name, x.more(name, 0), Check.NO);
        }
        // Rules that name what comes to NOTHING are no way out, others are.
        more(of("A=BB;B=B", "abab"), 1, 0, "ab");
    }

    private static void moreUnknownOutside() {
        check.sentence("Promise 21: UNKNOWN; OUTSIDE, ahead of STATE and NO");
        MendTexts none = Check.of("A=a", "a");
        MendTexts some = of("A=a;B=B;F=b", "a");
        MendTexts no = of("A=B;B=B", "a");
        for (int name : NO_NAMES) {
            for (int what : new int[] {-1, 0, 3, 4}) {
                check.due("more " + name + ", " + what, none.more(name, what), Check.UNKNOWN);
                check.due("more " + name + ", " + what, some.more(name, what), Check.UNKNOWN);
                check.due("more " + name + ", " + what, no.more(name, what), Check.UNKNOWN);
            }
        }
        for (int what : new int[] {-2, -1, 4, 5, 10, Integer.MIN_VALUE, Integer.MAX_VALUE}) {
            for (int name = 0; name < 6; name++) {
                check.due("more " + name + ", " + what, none.more(name, what), Check.OUTSIDE);
                check.due("more " + name + ", " + what, some.more(name, what), Check.OUTSIDE);
                check.due("more " + name + ", " + what, no.more(name, what), Check.OUTSIDE);
            }
        }
    }

    private static void moreChangesNothing() {
        check.sentence("Promise 21: a rule that a NAME could have does not become its own");
        MendTexts x = of("A=aB;B=b|B", "dd");
        Check.word(x, "ab");
        for (int name = 0; name < 6; name++) {
            x.more(name, 0);
            check.due("rules of it", x.told(10 + name), name == 0 ? 1 : name == 1 ? 2 : 0);
            check.due("names", x.told(1), 3);
            check.due("nothing", x.nothing(), 60);
            check.due("total", x.total(), 2);
            check.due("the text", Check.text(x), "ab");
            check.due("least", Check.least(x, 0), "ab");
            check.due("is", x.is(0), 1);
            check.due("first", x.first(0), Check.NONE);
            check.due("mend", x.mend(0, 0, 1), 1);
        }
    }

    private static void moreFollows() {
        check.sentence("Promise 21: MORE of what is there now");
        MendTexts x = of("A=A", "a");
        more(x, 0, 0, "a");
        check.due("the same word once more", x.example(), 1);
        more(x, 0, 0, "a");
        x.forget();
        Check.word(x, "bb");
        x.example();
        more(x, 0, 0, "bb");
        check.due("one more, nothing else", x.example(), 1);
        check.due("one more, nothing else", x.example(), 2);
        more(x, 0, 0, "bb");
        x.forget();
        Check.examples(x, "abc");
        more(x, 0, 1, "ab");
        check.due("the same word once more", x.example(), 1);
        check.due("its total", x.more(0, 0), 2);
        x.cost(0, 7);
        check.due("its total at another cost", x.more(0, 0), 14);
        x.cost(0, 1);
        check.due("its total at the first cost", x.more(0, 0), 2);
        Check.say(x, "A=abc");
        x.grammar();
        more(x, 0, 0, "");
        check.due("another name", x.more(1, 1), 0);
        Check.say(x, "A=B");
        x.grammar();
        more(x, 1, 2, "ab");
        more(x, 0, 2, "ab");
        check.due("a name that START does not use", x.more(2, 0), Check.NO);
        more(x, 1, 2, "ab");
        Check.word(x, "dddd");
        more(x, 1, 2, "ab");
    }

    private static void toldLeastAndMost() {
        check.sentence("Promise 22: told, the least and the most of each");
        int[] least = {0, 0, 0, 0, 0, 1, 1, 1};
        MendTexts x = new MendTexts();
        for (int what = 0; what < least.length; what++) {
            check.due("the least of " + what, x.told(what), least[what]);
        }
        Check.grammar(x, "F=a|a|a|a;E=a|a|a|a;D=a|a|a|a;C=a|a|a|a;B=a|a|a|a;A=a|a|a|a");
        Check.word(x, "dddddd");
        for (int i = 0; i < 4; i++) {
            x.example();
        }
        costs(x, 9, 9, 9);
        Check.say(x, "~".repeat(61));
        int[] most = {60, 63, 5, 6, 3, 9, 9, 9};
        for (int what = 0; what < most.length; what++) {
            check.due("the most of " + what, x.told(what), most[what]);
        }
        for (int what = 10; what <= 15; what++) {
            check.due("the least of " + what, new MendTexts().told(what), 0);
            check.due("the most of " + what, x.told(what), 4);
        }
        costs(x, 2, 3, 4);
        for (int what = 5; what <= 7; what++) {
            check.due("cost " + what, x.told(what), what - 3);
        }
        x = Check.of("B=a|b;D=a|b|c;E=_", "");
        int[] rules = {0, 2, 0, 3, 1, 0};
        for (int name = 0; name < 6; name++) {
            check.due("rules of " + name, x.told(10 + name), rules[name]);
        }
        check.due("names as bits", x.told(1), 2 + 8 + 16);
    }

    private static void toldOutside() {
        check.sentence("Promise 22: OUTSIDE");
        MendTexts x = Check.of("A=a", "a");
        for (int what = -30; what <= 60; what++) {
            boolean there = what >= 0 && what <= 7 || what >= 10 && what <= 15;
            check.holds("told " + what, there == (x.told(what) != Check.OUTSIDE));
        }
        for (int what : new int[] {-1, 8, 9, 16, 100, Integer.MIN_VALUE, Integer.MAX_VALUE}) {
            check.due("told " + what, x.told(what), Check.OUTSIDE);
        }
    }

    private static void fiveHundredAndTwelve() {
        check.sentence("An object is used for at most 512 calls after it has been made");
        MendTexts x = new MendTexts();
        int calls = 0;
        for (int i = 0; i < 50; i++) {
            x.say('A');
            x.say('=');
            x.say('a');
            x.say('|');
            x.say('_');
            check.due("grammar", x.grammar(), 1);
            x.say('a');
            check.due("word", x.word(), 1);
            check.due("example", x.example(), i % 2);
            check.due("again or forgotten", i % 2 == 0 ? x.total() : x.forget(), i % 2 == 0 ? 0 : 2);
            calls += 10;
        }
        for (; calls < 511; calls++) {
            check.due("is", x.is(0), 1);
        }
        check.due("the 512th call", x.mend(0, 0, 1), 0);
    }
}
