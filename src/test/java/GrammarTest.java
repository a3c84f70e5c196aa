/** Promises 1 to 8: a new object, the pad, faults, grammars, rules, least words, nothing. */
final class GrammarTest {
    private static final Check check = new Check();
    private static final int A = 0, B = 1, C = 2, D = 3, E = 4, F = 5;

    public static void main(String[] args) {
        newObject();
        saying();
        faults();
        faultsOfFullPads();
        grammars();
        rules();
        leasts();
        longLeasts();
        nothings();
        check.end("GrammarTest");
    }

    private static void newObject() {
        MendTexts x = new MendTexts();
        for (int what = 0; what <= 4; what++) {
            check.due("new: told " + what, x.told(what), 0);
        }
        for (int what = 5; what <= 7; what++) {
            check.due("new: told " + what, x.told(what), 1);
        }
        for (int what = 10; what <= 15; what++) {
            check.due("new: told " + what, x.told(what), 0);
        }
        check.due("new: nothing", x.nothing(), 63);
        check.due("new: fault", x.fault(), 0);
        check.due("new: first", x.first(A), 0);
        check.due("new: is", x.is(A), 0);
        check.due("new: total", x.total(), 0);
        check.due("new: text", x.text(-1), Check.NO);
        check.due("new: ways", x.ways(), Check.NO);
    }

    private static void saying() {
        MendTexts x = new MendTexts();
        check.due("say 32", x.say(32), Check.OUTSIDE);
        check.due("say 127", x.say(127), Check.OUTSIDE);
        check.due("say -1", x.say(-1), Check.OUTSIDE);
        check.due("say least", x.say(Integer.MIN_VALUE), Check.OUTSIDE);
        check.due("say most", x.say(Integer.MAX_VALUE), Check.OUTSIDE);
        check.due("none was taken", x.told(0), 0);
        check.due("wipe of none", x.wipe(), 0);
        for (int i = 1; i <= 60; i++) {
            check.due("say", x.say(i % 2 == 0 ? 33 : 126), i);
        }
        check.due("say on a full pad", x.say(65), Check.FULL);
        check.due("OUTSIDE ahead of FULL", x.say(32), Check.OUTSIDE);
        check.due("told 0", x.told(0), 60);
        check.due("wipe", x.wipe(), 60);
        check.due("told 0", x.told(0), 0);
        check.due("say again", x.say(97), 1);
    }

    private static void fault(String signs, int due) {
        check.due("fault of " + signs, Check.fault(signs), due);
    }

    private static void faults() {
        fault("", 0);
        fault("A", 1);
        fault("A=", 2);
        fault("A=a", Check.NONE);
        fault("A=a|", 4);
        fault("A=a;", 4);
        fault("A=a;B", 5);
        fault("A=a;B=", 6);
        fault("A=a;B=_", Check.NONE);
        fault("a=a", 0);
        fault("G=a", 0);
        fault("@=a", 0);
        fault("_", 0);
        fault("AA=a", 1);
        fault("A=e", 2);
        fault("A=G", 2);
        fault("A==", 2);
        fault("A=|a", 2);
        fault("A=;", 2);
        fault("A=a|;", 4);
        fault("A=a||", 4);
        fault("A=_a", 3);
        fault("A=__", 3);
        fault("A=a_", 3);
        fault("A=_|_|_|_", Check.NONE);
        fault("A=aBcD", Check.NONE);
        fault("A=aBcDa", 6);
        fault("A=aBcD_", 6);
        fault("A=a|b|c|d", Check.NONE);
        fault("A=a|b|c|d|", 9);
        fault("A=a|b|c|_|a", 9);
        fault("A=a|b|c|dddd;B=a|b|c|d", Check.NONE);
        fault("A=a|b|c|dddd;B=a|b|c|d|a", 22);
        fault("A=A=", 3);
        fault("A=a;;", 4);
        fault("A=a;a", 4);
        fault("A=a;A", 4);
        fault("F=a;B=b;F", 8);
        fault("A=a;B=b;B=", 8);
        fault("A=AAAA", Check.NONE);
        fault("A=a;B=b;C=c;D=d;E=a;F=b", Check.NONE);
        fault("A=a;B=b;C=c;D=d;E=a;F=b;", 23);
        fault("A=a;B=b;C=c;D=d;E=a;F=b;A", 23);
        fault("A=a;B=b;C=c;D=d;E=a;F=b|_", Check.NONE);
        fault("A=a b".replace(" ", "!"), 3);
        fault("A=a~", 3);
        fault("=a", 0);
        fault("A=a=", 3);
    }

    private static void faultsOfFullPads() {
        String full = "A=aaaa|bbbb|cccc|dddd;B=aaaa|bbbb|cccc|dddd;C=aaaa|bbbb|cccc";
        fault(full.substring(0, 60), Check.NONE);
        fault(full.substring(0, 58) + "c|", 60);
        fault(full.substring(0, 58) + "ce", 59);
        MendTexts x = new MendTexts();
        Check.say(x, full);
        check.due("a grammar of 60 signs", x.grammar(), 3);
        check.due("its last rule", x.rule(C, 2, -1), 4);
        check.due("its rules", x.told(12), 3);
    }

    private static void grammars() {
        MendTexts x = new MendTexts();
        check.due("an empty pad is no grammar", x.grammar(), Check.NO);
        Check.say(x, "A=a|");
        check.due("a grammar with a fault", x.grammar(), Check.NO);
        check.due("the pad stays", x.told(0), 4);
        check.due("no name is told", x.told(1), 0);
        x.say('b');
        check.due("grammar", x.grammar(), 1);
        check.due("the pad is empty", x.told(0), 0);
        check.due("told 1", x.told(1), 1);
        x.cost(1, 5);
        Check.examples(x, "ab", "c");
        check.due("grammar of three", Check.grammar(x, "D=FA;B=_;F=c|d|a"), 3);
        check.due("names as bits", x.told(1), 1 << D | 1 << B | 1 << F);
        check.due("start", x.told(2), D);
        check.due("the old rules are gone", x.told(10), 0);
        check.due("rules of F", x.told(15), 3);
        check.due("the word stays", x.told(3), 1);
        check.due("the examples stay", x.told(4), 2);
        check.due("the costs stay", x.told(6), 5);
        Check.say(x, "A=a;A");
        check.due("a grammar with a fault changes nothing", x.grammar(), Check.NO);
        check.due("start", x.told(2), D);
        check.due("names", x.told(1), 1 << D | 1 << B | 1 << F);
        check.due("rule of F", x.rule(F, 1, 0), 3);
        check.due("fault", x.fault(), 4);
        check.due("fault leaves the grammar", x.rule(F, 2, 0), 0);
    }

    private static void rules() {
        MendTexts x = Check.of("C=aFb|_|CdAB;A=B", "");
        check.due("rule", x.rule(C, 0, -1), 3);
        check.due("rule", x.rule(C, 0, 0), 0);
        check.due("rule", x.rule(C, 0, 1), 15);
        check.due("rule", x.rule(C, 0, 2), 1);
        check.due("rule, behind its end", x.rule(C, 0, 3), Check.NONE);
        check.due("rule, ahead of it", x.rule(C, 0, -2), Check.NONE);
        check.due("rule, far away", x.rule(C, 0, Integer.MAX_VALUE), Check.NONE);
        check.due("rule, far away", x.rule(C, 0, Integer.MIN_VALUE), Check.NONE);
        check.due("empty rule", x.rule(C, 1, -1), 0);
        check.due("empty rule", x.rule(C, 1, 0), Check.NONE);
        check.due("rule", x.rule(C, 2, -1), 4);
        check.due("rule", x.rule(C, 2, 0), 12);
        check.due("rule", x.rule(C, 2, 1), 3);
        check.due("rule", x.rule(C, 2, 2), 10);
        check.due("rule", x.rule(C, 2, 3), 11);
        check.due("rule", x.rule(C, 2, 4), Check.NONE);
        check.due("no fourth rule", x.rule(C, 3, -1), Check.UNKNOWN);
        check.due("no such rule", x.rule(C, -1, 0), Check.UNKNOWN);
        check.due("no such rule", x.rule(C, Integer.MAX_VALUE, 0), Check.UNKNOWN);
        check.due("B has none", x.rule(B, 0, -1), Check.UNKNOWN);
        check.due("rule of A", x.rule(A, 0, 0), 11);
        check.due("no name", x.rule(-1, 0, 0), Check.UNKNOWN);
        check.due("no name", x.rule(6, 0, 0), Check.UNKNOWN);
        check.due("no name", x.rule(10, 0, 0), Check.UNKNOWN);
    }

    private static void least(String grammar, int name, String due) {
        MendTexts x = Check.of(grammar, "abc");
        String got = Check.least(x, name);
        check.holds("least " + name + " of " + grammar + " is " + due + ", not " + got, got.equals(due));
    }

    private static void leasts() {
        least("A=a", A, "a");
        least("A=ba|ab", A, "ab");
        least("A=d|aa", A, "d");
        least("A=aa|b|_", A, "");
        least("A=BB;B=c|bb", A, "cc");
        least("A=BC|aab;B=b;C=ac|ca", A, "aab");
        least("A=BC;B=b|aa;C=a|bb", A, "ba");
        least("A=aA|bA|d", A, "d");
        least("A=Ab|c", A, "c");
        least("A=Bd;B=C;C=D;D=E;E=F;F=A|c|Ba", A, "cd");
        least("A=AA|dc", A, "dc");
        least("A=AA|_|b", A, "");
        least("A=B;B=A", A, "-6");
        least("A=a", B, "-6");
        least("A=dd|cdd|dcd|Bb;B=c|b", A, "bb");
        least("F=EE;E=DbD|cc;D=a|_", F, "bb");
        MendTexts x = Check.of("A=abdc", "");
        check.due("least, behind its end", x.least(A, 4), Check.NONE);
        check.due("least, ahead of it", x.least(A, -2), Check.NONE);
        check.due("least, far away", x.least(A, Integer.MIN_VALUE), Check.NONE);
        check.due("least, far away", x.least(A, Integer.MAX_VALUE), Check.NONE);
        check.due("least", x.least(A, 2), 3);
        check.due("no name", x.least(-1, 0), Check.UNKNOWN);
        check.due("no name", x.least(6, -1), Check.UNKNOWN);
        x.cost(1, 9);
        check.due("costs do not matter", x.least(A, -1), 4);
    }

    private static void longLeasts() {
        least("A=BBB;B=abcd", A, "abcdabcdabcd");
        MendTexts x = Check.of("A=BBBa;B=abcd;C=BB|A", "");
        check.due("13 letters", x.least(A, -1), Check.NONE);
        check.due("13 letters", x.least(A, 0), Check.NONE);
        check.due("8 letters", x.least(C, -1), 8);
        check.due("A comes to words", x.nothing(), 63 - 7);
        x = Check.of("A=BBBB;B=CCCC;C=DDDD;D=EEEE;E=FFFF;F=dddd", "");
        for (int name = A; name <= D; name++) {
            check.due("64 letters and more", x.least(name, -1), Check.NONE);
        }
        check.due("16 letters", x.least(E, -1), Check.NONE);
        check.due("4 letters", x.least(F, -1), 4);
        check.due("none is nothing", x.nothing(), 0);
        check.due("4096 letters are put", x.mend(A, 0, 0), 4096);
        x.cost(1, 9);
        check.due("4096 letters are put, 9 each", x.mend(A, 0, 0), 36864);
        Check.word(x, "aaaaaa");
        x.cost(0, 9);
        x.cost(2, 9);
        check.due("six of them changed", x.mend(A, 0, 6), 36864);
        Check.examples(x, "aaaaaa", "dddddd", "");
        check.due("a great total", x.total(), 36864 + 36864 - 54 + 36864);
    }

    private static void nothing(String grammar, int due) {
        check.due("nothing of " + grammar, Check.of(grammar, "ab").nothing(), due);
    }

    private static void nothings() {
        nothing("A=a", 62);
        nothing("A=_", 62);
        nothing("A=A", 63);
        nothing("A=aA|Ab", 63);
        nothing("A=B;B=C;C=D;D=E;E=F;F=a", 0);
        nothing("F=E;E=D;D=C;C=B;B=A;A=a", 0);
        nothing("A=BC;B=a", 61);
        nothing("A=BC|C;B=a;C=CB|_", 56);
        nothing("A=B;B=A;C=A|_", 59);
        nothing("D=aE|F;E=bD;F=FE", 63);
    }
}
