/**
 * Each sentence of "Terms" 1 and of promises 1 to 8 that names a boundary, by
 * itself: the least and the greatest that is allowed, and the first beyond.
 */
final class EdgeGrammarTest {
    private static final Check check = new Check();
    private static final int[] NO_NAMES = {-1, 6, 7, 10, 15, 65, Integer.MIN_VALUE, Integer.MAX_VALUE};

    public static void main(String[] args) {
        newObject();
        signs();
        sixty();
        wipes();
        oneOrMoreNames();
        noNameTwice();
        namesAToF();
        rulesOfAName();
        signsOfARule();
        betweenRules();
        whatMustCome();
        firstFault();
        noneAtFirst();
        noRulesNothing();
        startIsFirst();
        grammarCounts();
        grammarEmptiesThePad();
        grammarStays();
        grammarRefused();
        ruleSigns();
        ruleUnknown();
        leastIsShortest();
        leastByLetters();
        leastTwelve();
        leastPlaces();
        leastUnknown();
        nothingBits();
        check.end("EdgeGrammarTest");
    }

    private static String times(int count, String signs) {
        return signs.repeat(count);
    }

    private static void fault(String signs, int due) {
        check.due("fault of " + signs, Check.fault(signs), due);
    }

    private static void newObject() {
        check.sentence("Promise 1: No GRAMMAR, an empty WORD, no EXAMPLES");
        MendTexts x = new MendTexts();
        check.due("names told", x.told(1), 0);
        check.due("letters", x.told(3), 0);
        check.due("examples", x.told(4), 0);
        check.due("signs", x.told(0), 0);
        check.due("forget", x.forget(), 0);
        check.due("near", x.near(0, 0), Check.UNKNOWN);
        check.due("more", x.more(0, 0), Check.STATE);
        check.due("rule", x.rule(0, 0, -1), Check.UNKNOWN);
        check.due("kept", x.kept(0), Check.OUTSIDE);
        check.due("mend", x.mend(0, 0, 1), Check.OUTSIDE);
        check.due("mend", x.mend(0, 0, 0), Check.NO);
        MendTexts y = Check.of("B=a", "ab");
        y.example();
        check.due("another object is not touched: signs", x.say('a'), 1);
        check.due("another object is not touched: names", x.told(1), 0);
        check.due("another object is not touched: letters", x.told(3), 0);
        check.due("another object is not touched: examples", x.told(4), 0);
    }

    private static void signs() {
        check.sentence("Terms 1: SIGNS (codes 33 to 126)");
        for (int code = -300; code <= 70000; code = code < 400 ? code + 1 : code + 97) {
            boolean sign = code >= 33 && code <= 126;
            check.due("say " + code, new MendTexts().say(code), sign ? 1 : Check.OUTSIDE);
        }
        for (int code : new int[] {Integer.MIN_VALUE, Integer.MIN_VALUE + 65, Integer.MAX_VALUE, 65 + (1 << 16),
            65 + 256, 65 - 256}) {
            check.due("say " + code, new MendTexts().say(code), Check.OUTSIDE);
        }
    }

    private static void sixty() {
        check.sentence("Terms 1: SIGNS are laid on a PAD, 60 at most");
        MendTexts x = new MendTexts();
        for (int i = 1; i <= 60; i++) {
            check.due("say", x.say(i % 94 + 33), i);
        }
        check.due("the 61st sign", x.say(33), Check.FULL);
        check.due("the 61st sign", x.say(126), Check.FULL);
        check.due("the 61st sign, not a sign", x.say(32), Check.OUTSIDE);
        check.due("the 61st sign, not a sign", x.say(127), Check.OUTSIDE);
        check.due("signs", x.told(0), 60);
        check.due("wipe", x.wipe(), 60);
        check.due("there is room again", x.say(33), 1);
        x = new MendTexts();
        Check.say(x, "A=a|a|a|a");
        check.due("a grammar takes the pad", x.grammar(), 1);
        Check.say(x, times(60, "!"));
        check.due("60 behind it", x.told(0), 60);
        x.wipe();
        Check.word(x, "abc");
        Check.say(x, times(59, "!"));
        check.due("60 behind a word", x.say('!'), 60);
        check.due("61 behind a word", x.say('!'), Check.FULL);
    }

    private static void wipes() {
        check.sentence("Promise 3: Signs go: how many there were");
        for (int count : new int[] {0, 1, 2, 59, 60}) {
            MendTexts x = new MendTexts();
            Check.say(x, times(count, "A"));
            check.due("wipe of " + count, x.wipe(), count);
            check.due("signs behind it", x.told(0), 0);
            check.due("fault behind it", x.fault(), 0);
            check.due("wipe again", x.wipe(), 0);
        }
        MendTexts x = Check.of("A=ab|_", "abc");
        x.example();
        x.cost(0, 9);
        Check.say(x, "B=d");
        x.wipe();
        check.due("the grammar stays", x.told(10), 2);
        check.due("the word stays", x.told(3), 3);
        check.due("the examples stay", x.told(4), 1);
        check.due("the costs stay", x.told(5), 9);
    }

    private static void oneOrMoreNames() {
        check.sentence("Terms 1: one or more of NAME, =, RULES, with a ; between two");
        fault("", 0);
        String signs = "";
        for (char name = 'A'; name <= 'F'; name++) {
            signs += name;
            fault(signs, signs.length());
            signs += "=";
            fault(signs, signs.length());
            signs += "a";
            fault(signs, Check.NONE);
            signs += ";";
            // Behind the sixth name no ; can stand.
            fault(signs, name < 'F' ? signs.length() : signs.length() - 1);
        }
        fault(";A=a", 0);
        fault("A;B=a", 1);
        fault("A=;B=a", 2);
        fault("A=aB=a", 4);
        fault("A=a;;B=a", 4);
        fault("A=a|;B=a", 4);
        fault("A=a;B=a=", 7);
    }

    private static void noNameTwice() {
        check.sentence("Terms 1: no NAME told twice; a NAME that was told, as one to be told");
        for (char name = 'A'; name <= 'F'; name++) {
            for (char other = 'A'; other <= 'F'; other++) {
                fault(name + "=a;" + other + "=a", name == other ? 4 : Check.NONE);
                fault(name + "=a;" + other, name == other ? 4 : 5);
                fault(name + "=" + other + name, Check.NONE);
            }
        }
        fault("C=a;A=b;B=c;A=d", 12);
        fault("C=a;A=b;B=c;C=d", 12);
        fault("C=a;A=b;B=c;B=d", 12);
        fault("C=a;A=b;B=c;D=d", Check.NONE);
        fault("A=a;B=b;C=c;D=d;E=a;A=b", 20);
        fault("A=a;B=b;C=c;D=d;E=a;E=b", 20);
    }

    private static void namesAToF() {
        check.sentence("Terms 1: NAMES are A to F, LETTERS a to d");
        for (int code = 33; code <= 126; code++) {
            String sign = "" + (char) code;
            boolean name = code >= 'A' && code <= 'F';
            boolean letter = code >= 'a' && code <= 'd';
            fault(sign, name ? 1 : 0);
            fault("A" + sign, code == '=' ? 2 : 1);
            fault("A=" + sign, name || letter || code == '_' ? Check.NONE : 2);
            fault("A=a;" + sign, name && code != 'A' ? 5 : 4);
            boolean between = code == '|' || code == ';';
            fault("A=a" + sign, name || letter ? Check.NONE : between ? 4 : 3);
            fault("A=aF" + sign, name || letter ? Check.NONE : between ? 5 : 4);
            fault("A=aFd" + sign, name || letter ? Check.NONE : between ? 6 : 5);
            fault("A=aFdC" + sign, between ? 7 : 6);
            fault("A=_" + sign, between ? 4 : 3);
            fault("A=a|" + sign, name || letter || code == '_' ? Check.NONE : 4);
            fault("A=a|b|c|d" + sign, name || letter ? Check.NONE : code == ';' ? 10 : 9);
            fault("A=a|b|c|_" + sign, code == ';' ? 10 : 9);
        }
    }

    private static void rulesOfAName() {
        check.sentence("Terms 1: RULES, 4 at most for a NAME; a | behind the fourth RULE");
        fault("A=a", Check.NONE);
        fault("A=a|b", Check.NONE);
        fault("A=a|b|c", Check.NONE);
        fault("A=a|b|c|d", Check.NONE);
        fault("A=a|b|c|d|", 9);
        fault("A=a|b|c|d|a", 9);
        fault("A=_|_|_|_", Check.NONE);
        fault("A=_|_|_|_|_", 9);
        fault("A=abcd|abcd|abcd|abcd|", 21);
        fault("A=a|b|c|d;B=a|b|c|d;C=a|b|c|d", Check.NONE);
        fault("A=a|b|c|d;B=a|b|c|d;C=a|b|c|d|", 29);
        fault("A=a;B=a|b|c|d", Check.NONE);
        fault("A=a;B=a|b|c|d|a", 13);
        fault("A=a|b|c|d;B=a|b", Check.NONE);
        for (int count = 1; count <= 4; count++) {
            MendTexts x = Check.of("A=" + "a|a|a|a".substring(0, 2 * count - 1) + ";F=_", "");
            check.due("rules of A", x.told(10), count);
            check.due("the last one of A", x.rule(0, count - 1, -1), 1);
            check.due("one more of A", x.rule(0, count, -1), Check.UNKNOWN);
            check.due("rules of F", x.told(15), 1);
        }
    }

    private static void signsOfARule() {
        check.sentence("Terms 1: a RULE: _ (empty), or 1 to 4 of LETTERS and NAMES; a fifth sign of a RULE");
        fault("A=_", Check.NONE);
        fault("A=d", Check.NONE);
        fault("A=dd", Check.NONE);
        fault("A=ddd", Check.NONE);
        fault("A=dddd", Check.NONE);
        fault("A=ddddd", 6);
        fault("A=FFFF", Check.NONE);
        fault("A=FFFFF", 6);
        fault("A=aBcDE", 6);
        fault("A=aBcD|aBcDE", 11);
        fault("A=aBcD;B=aBcDE", 13);
        fault("A=a|aaaa|aa|aaaaa", 16);
        fault("A=a_", 3);
        fault("A=_a", 3);
        fault("A=_A", 3);
        fault("A=__", 3);
        fault("A=aaaa_", 6);
        fault("A=aaa_", 5);
        MendTexts x = Check.of("A=_|d|dd|ddd;B=dddd", "");
        for (int i = 0; i < 4; i++) {
            check.due("signs of rule " + i, x.rule(0, i, -1), i);
        }
        check.due("signs of the rule of B", x.rule(1, 0, -1), 4);
    }

    private static void betweenRules() {
        check.sentence("Terms 1: RULES: one or more, with a | between two");
        fault("A=|", 2);
        fault("A=|a", 2);
        fault("A=a|", 4);
        fault("A=a||b", 4);
        fault("A=a|;", 4);
        fault("A=;", 2);
        fault("A=_|", 4);
        fault("A=_||", 4);
        fault("A=_|_", Check.NONE);
    }

    private static void whatMustCome() {
        check.sentence("Terms 1: THE FAULT: the number of signs, if more must come");
        fault("F", 1);
        fault("F=", 2);
        fault("F=a|", 4);
        fault("F=a;", 4);
        fault("F=a;A", 5);
        fault("F=a;A=", 6);
        String most = "A=aaaa|bbbb|cccc|dddd;B=aaaa|bbbb|cccc|dddd;C=aaaa|bbbb|dddd";
        check.due("signs of it", most.length(), 60);
        fault(most, Check.NONE);
        fault(most.substring(0, 59), Check.NONE);
        fault(most.substring(0, 59) + "|", 60);
        fault(most.substring(0, 59) + ";", 60);
        fault(most.substring(0, 59) + "!", 59);
        fault("F" + times(59, "!"), 1);
        fault(times(60, "!"), 0);
        fault(times(60, "~"), 0);
    }

    private static void firstFault() {
        check.sentence("Terms 1: THE FAULT: the place (from 0 on) of the first sign that can not stand there");
        fault("!", 0);
        fault("!A=a", 0);
        fault("AA=a", 1);
        fault("A==a", 2);
        fault("A=a=a=", 3);
        fault("A=eee", 2);
        fault("A=a;A=a;A=a", 4);
        fault("A=ab|abcda|abcda", 9);
        MendTexts x = new MendTexts();
        Check.say(x, "A=a!");
        check.due("fault", x.fault(), 3);
        check.due("fault, asked again", x.fault(), 3);
        x.say('a');
        check.due("a sign more does not mend it", x.fault(), 3);
        x.wipe();
        check.due("fault of no signs", x.fault(), 0);
    }

    private static void noneAtFirst() {
        check.sentence("Terms 1: There is none at first: no NAME has RULES, START is A");
        MendTexts x = new MendTexts();
        for (int name = 0; name < 6; name++) {
            check.due("rules", x.told(10 + name), 0);
            check.due("rule", x.rule(name, 0, -1), Check.UNKNOWN);
            check.due("least", x.least(name, -1), Check.NONE);
            check.due("is", x.is(name), 0);
            check.due("first", x.first(name), 0);
            check.due("mend", x.mend(name, 0, 0), Check.NO);
        }
        check.due("start", x.told(2), 0);
        check.due("nothing", x.nothing(), 63);
        check.due("text", x.text(-1), Check.NO);
        x.example();
        check.due("a rule more for A is one for START", x.more(0, 0), 0);
        check.due("a rule more for B is none for START", x.more(1, 0), Check.NO);
    }

    private static void noRulesNothing() {
        check.sentence("Terms 1: One that has no RULES comes to NOTHING");
        MendTexts x = Check.of("A=B|aC;C=_", "a");
        check.due("nothing", x.nothing(), 63 - 1 - 4);
        check.due("least of B", x.least(1, -1), Check.NONE);
        check.due("least of B", x.least(1, 0), Check.NONE);
        check.due("mend of B", x.mend(1, 0, 1), Check.NO);
        check.due("first of B", x.first(1), 0);
        check.due("is of B", x.is(1), 0);
        check.due("a name that has the empty rule comes to a word", x.least(2, -1), 0);
        check.due("the other rule of A makes words", x.least(0, -1), 1);
    }

    private static void startIsFirst() {
        check.sentence("Terms 1: START is the first NAME of a GRAMMAR");
        MendTexts x = new MendTexts();
        for (int name = 0; name < 6; name++) {
            char sign = (char) ('A' + name);
            Check.grammar(x, sign + "=ab" + (sign == 'A' ? ";B=c" : ";A=c"));
            check.due("start", x.told(2), name);
            check.due("the text is of START", Check.text(x), "ab");
        }
        Check.say(x, "D=");
        x.grammar();
        check.due("a grammar that is refused leaves START", x.told(2), 5);
    }

    private static void grammarCounts() {
        check.sentence("Promise 5: how many NAMES it tells");
        String six = "F=a;B=b;A=c;D=d;C=_;E=A";
        int bits = 0;
        for (int count = 1; count <= 6; count++) {
            MendTexts x = new MendTexts();
            check.due("grammar", Check.grammar(x, six.substring(0, 4 * count - 1)), count);
            bits |= 1 << six.charAt(4 * count - 4) - 'A';
            check.due("names as bits", x.told(1), bits);
        }
        check.due("names used, but not told", Check.of("A=BCDE", "").told(1), 1);
    }

    private static void grammarEmptiesThePad() {
        check.sentence("Promise 5: The PAD becomes THE GRAMMAR (it is empty then)");
        MendTexts x = new MendTexts();
        Check.say(x, "A=aaaa|bbbb|cccc|dddd;B=aaaa|bbbb|cccc|dddd;C=aaaa|bbbb|dddd");
        check.due("grammar of 60 signs", x.grammar(), 3);
        check.due("signs", x.told(0), 0);
        check.due("wipe", x.wipe(), 0);
        check.due("fault of the empty pad", x.fault(), 0);
        check.due("the same again", x.grammar(), Check.NO);
        check.due("the grammar is there", x.told(12), 3);
        Check.grammar(x, "C=b");
        check.due("the new one has no A", x.told(10), 0);
        check.due("the new one has no B", x.told(11), 0);
        check.due("the new one has one rule of C", x.told(12), 1);
        check.due("the rules of the old one are gone", x.rule(2, 1, -1), Check.UNKNOWN);
        check.due("the words of the old one are gone", Check.least(x, 2), "b");
    }

    private static void grammarStays() {
        check.sentence("Promise 5: the WORD, EXAMPLES, COSTS stay");
        MendTexts x = new MendTexts();
        Check.examples(x, "dd", "abcdab");
        Check.word(x, "abab");
        x.cost(0, 2);
        x.cost(1, 3);
        x.cost(2, 4);
        check.due("grammar", Check.grammar(x, "A=ab"), 1);
        check.due("letters", x.told(3), 4);
        check.due("the word", Check.kept(x), "1111");
        check.due("examples", x.told(4), 2);
        check.due("the examples", x.near(0, 1), 4 + 4 * 3);
        check.due("DROP", x.told(5), 2);
        check.due("PUT", x.told(6), 3);
        check.due("CHANGE", x.told(7), 4);
        check.due("total", x.total(), 8 + 8);
    }

    private static void grammarRefused() {
        check.sentence("Promise 5: NO: there is a FAULT");
        MendTexts x = Check.of("B=ab|A;A=c", "ab");
        String[] faulty = {"", "C", "C=", "C=a|", "C=a;", "C=a;C=a", "C=aaaaa", "C=a|a|a|a|a", "!"};
        for (String signs : faulty) {
            x.wipe();
            Check.say(x, signs);
            int fault = x.fault();
            check.due("grammar of " + signs, x.grammar(), Check.NO);
            check.due("the signs stay", x.told(0), signs.length());
            check.due("the fault stays", x.fault(), fault);
            check.due("START stays", x.told(2), 1);
            check.due("the names stay", x.told(1), 3);
            check.due("the rules stay", x.told(11), 2);
            check.due("no rules come", x.told(12), 0);
            check.due("the text stays", Check.text(x), "ab");
        }
    }

    private static void ruleSigns() {
        check.sentence("Promise 6: how many signs (j = -1), the j-th one (LETTERS 0 to 3, NAMES 10 to 15); NONE");
        MendTexts x = Check.of("F=abcd|ABCD|EF|_;A=d", "");
        int[][] due = {{0, 1, 2, 3}, {10, 11, 12, 13}, {14, 15}, {}};
        for (int i = 0; i < 4; i++) {
            check.due("signs", x.rule(5, i, -1), due[i].length);
            for (int j = 0; j < due[i].length; j++) {
                check.due("rule " + i + ", sign " + j, x.rule(5, i, j), due[i][j]);
            }
            for (int j = due[i].length; j < 7; j++) {
                check.due("rule " + i + ", behind its end", x.rule(5, i, j), Check.NONE);
            }
            for (int j : new int[] {-2, -3, Integer.MIN_VALUE, Integer.MAX_VALUE, Integer.MAX_VALUE - 1}) {
                check.due("rule " + i + ", sign " + j, x.rule(5, i, j), Check.NONE);
            }
        }
        check.due("rule of A", x.rule(0, 0, 0), 3);
        check.due("rule of A, behind its end", x.rule(0, 0, 1), Check.NONE);
    }

    private static void ruleUnknown() {
        check.sentence("Promise 6: UNKNOWN (there is no such NAME, RULE)");
        MendTexts x = Check.of("A=a|b|c|d;B=a|b;F=a", "");
        for (int name : NO_NAMES) {
            for (int i : new int[] {-1, 0, 1}) {
                check.due("rule of name " + name, x.rule(name, i, -1), Check.UNKNOWN);
                check.due("rule of name " + name, x.rule(name, i, 0), Check.UNKNOWN);
            }
        }
        int[] counts = {4, 2, 0, 0, 0, 1};
        for (int name = 0; name < 6; name++) {
            for (int i = -2; i < 7; i++) {
                boolean there = i >= 0 && i < counts[name];
                check.due("rule " + i + " of " + name, x.rule(name, i, -1), there ? 1 : Check.UNKNOWN);
            }
            check.due("rule of " + name, x.rule(name, Integer.MIN_VALUE, 0), Check.UNKNOWN);
            check.due("rule of " + name, x.rule(name, Integer.MAX_VALUE, 0), Check.UNKNOWN);
            check.due("UNKNOWN, not NONE", x.rule(name, 4, 9), Check.UNKNOWN);
            check.due("UNKNOWN, not NONE", x.rule(name, -1, -2), Check.UNKNOWN);
        }
    }

    private static void least(String grammar, int name, String due) {
        check.due("least of " + name + " in " + grammar, Check.least(Check.of(grammar, "ab"), name), due);
    }

    private static void leastIsShortest() {
        check.sentence("Terms 1: LEAST: the shortest word that it comes to");
        least("A=_|a", 0, "");
        least("A=aaaa|b", 0, "b");
        least("A=aa|b", 0, "b");
        least("A=aab|dd", 0, "dd");
        least("A=BB;B=aa|d", 0, "dd");
        least("A=BB|ddd;B=aa", 0, "ddd");
        least("A=AAAA|Bd;B=A|cc", 0, "ccd");
        least("A=BBBB|BBB;B=abc", 0, "abcabcabc");
    }

    private static void leastByLetters() {
        check.sentence("Terms 1: LEAST: of several the first by LETTERS");
        least("A=d|c|b|a", 0, "a");
        least("A=b|a", 0, "a");
        least("A=ba|ab", 0, "ab");
        least("A=ad|ac", 0, "ac");
        least("A=dddd|dddc", 0, "dddc");
        least("A=Bd|ca;B=d|c", 0, "ca");
        least("A=BC;B=b|ab;C=bb|a", 0, "ba");
        least("A=BC;B=b|ab;C=bb|cd", 0, "bbb");
        least("A=BC|abb;B=b|ab;C=bb|b", 0, "bb");
        least("A=BBB|dcca;B=dccb|dcc", 0, "dcca");
        least("A=BBB;B=dddd|dddc", 0, "dddcdddcdddc");
        least("A=BBB|CCCC;B=dcba;C=dca", 0, "dcadcadcadca");
    }

    private static void leastTwelve() {
        check.sentence("Promise 7: NONE: NOTHING, or more than 12");
        least("A=BBB;B=dcba", 0, "dcbadcbadcba");
        least("A=BBBb;B=dcba", 0, "-6");
        least("A=BBBB;B=aaa", 0, "aaaaaaaaaaaa");
        least("A=BBBC;B=aaa;C=aaaa", 0, "-6");
        least("A=BBBC;B=aaa;C=aa", 0, "aaaaaaaaaaa");
        least("A=BBBb|CC;B=dcba;C=BBB", 0, "-6");
        least("A=aA", 0, "-6");
        MendTexts x = Check.of("A=BBBb;B=dcba;C=aC", "");
        for (int j = -1; j < 14; j++) {
            check.due("13 letters, " + j, x.least(0, j), Check.NONE);
            check.due("nothing, " + j, x.least(2, j), Check.NONE);
            check.due("no rules, " + j, x.least(3, j), Check.NONE);
        }
        check.due("13 letters are not nothing", x.nothing(), 63 - 3);
    }

    private static void leastPlaces() {
        check.sentence("Promise 7: how many LETTERS (j = -1), the j-th one; NONE");
        MendTexts x = Check.of("A=BBB;B=dcba;C=_;D=a", "d");
        for (int j = 0; j < 12; j++) {
            check.due("letter " + j, x.least(0, j), 3 - j % 4);
        }
        check.due("letters", x.least(0, -1), 12);
        check.due("letter 12", x.least(0, 12), Check.NONE);
        check.due("letters of one", x.least(3, -1), 1);
        check.due("letter 0 of one", x.least(3, 0), 0);
        check.due("letter 1 of one", x.least(3, 1), Check.NONE);
        check.due("letters of the empty word", x.least(2, -1), 0);
        check.due("letter 0 of the empty word", x.least(2, 0), Check.NONE);
        for (int j : new int[] {-2, -3, 13, 64, Integer.MIN_VALUE, Integer.MIN_VALUE + 1, Integer.MAX_VALUE}) {
            for (int name = 0; name < 6; name++) {
                check.due("letter " + j, x.least(name, j), Check.NONE);
            }
        }
    }

    private static void leastUnknown() {
        check.sentence("Promise 7: UNKNOWN");
        MendTexts x = Check.of("A=a;F=d", "");
        for (int name : NO_NAMES) {
            for (int j : new int[] {-2, -1, 0, 1}) {
                check.due("least of name " + name, x.least(name, j), Check.UNKNOWN);
            }
        }
        check.due("least of the first name", x.least(0, 0), 0);
        check.due("least of the last name", x.least(5, 0), 3);
    }

    private static void nothingBits() {
        check.sentence("Promise 8: NAMES that come to NOTHING, as bits");
        for (int name = 0; name < 6; name++) {
            char sign = (char) ('A' + name);
            check.due("all but " + sign, Check.of(sign + "=_", "").nothing(), 63 - (1 << name));
            check.due("all, with " + sign, Check.of(sign + "=" + sign, "").nothing(), 63);
        }
        check.due("none", Check.of("A=a;B=a;C=a;D=a;E=a;F=_", "").nothing(), 0);
        check.due("none, by each other", Check.of("A=B;B=C;C=D;D=E;E=F;F=_", "").nothing(), 0);
        check.due("all, by each other", Check.of("A=B;B=C;C=D;D=E;E=F;F=A", "").nothing(), 63);
        check.due("one rule of four", Check.of("A=A|AA|AB|c", "").nothing(), 62);
        check.due("each sign of a rule must come to words", Check.of("A=abcB|BBBa|aBaa|aaBa", "").nothing(), 63);
        check.due("words of more than 12 letters", Check.of("A=BBBB;B=CCCC;C=aaaa", "").nothing(), 56);
        MendTexts x = new MendTexts();
        check.due("no grammar", x.nothing(), 63);
        Check.grammar(x, "A=a");
        check.due("a grammar", x.nothing(), 62);
        Check.grammar(x, "B=a");
        check.due("another grammar", x.nothing(), 61);
    }
}
