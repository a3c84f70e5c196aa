/** Each sentence of "Terms" 3 and of promises 12 to 16 that names a boundary, by itself. */
final class EdgeMendTest {
    private static final Check check = new Check();
    private static final int[] NO_NAMES = {-1, 6, 7, 10, 15, 65, Integer.MIN_VALUE, Integer.MAX_VALUE};
    private static final int[] FAR = {Integer.MIN_VALUE, Integer.MIN_VALUE + 1, -2, 100, Integer.MAX_VALUE - 1,
        Integer.MAX_VALUE};

    public static void main(String[] args) {
        costsOneToNine();
        costWhich();
        whatCosts();
        leastCost();
        mendParts();
        mendNothing();
        mendUnknown();
        mendOfTheLeastAndTheMost();
        textIsLeast();
        textShortest();
        textFirstByLetters();
        textTwelve();
        textPlaces();
        textNothing();
        waysOne();
        waysDropAndPut();
        waysMost();
        waysRefused();
        keptByAllSomeNone();
        keptBesideTheSame();
        keptOutside();
        keptRefused();
        check.end("EdgeMendTest");
    }

    private static void costs(MendTexts x, int drop, int put, int change) {
        x.cost(0, drop);
        x.cost(1, put);
        x.cost(2, change);
    }

    private static MendTexts at(String grammar, String word, int drop, int put, int change) {
        MendTexts x = Check.of(grammar, word);
        costs(x, drop, put, change);
        return x;
    }

    private static void costsOneToNine() {
        check.sentence("Terms 3: COSTS: 1 to 9; 1 at first. Promise 12: which it was. OUTSIDE");
        for (int which = 0; which < 3; which++) {
            MendTexts x = new MendTexts();
            check.due("at first", x.told(5 + which), 1);
            int was = 1;
            for (int value : new int[] {1, 9, 2, 8, 9, 9, 1}) {
                check.due("cost " + which + ", " + value, x.cost(which, value), was);
                check.due("it is", x.told(5 + which), value);
                was = value;
            }
            for (int value : new int[] {0, -1, 10, 11, 257, Integer.MIN_VALUE, Integer.MAX_VALUE}) {
                x.cost(which, 5);
                check.due("cost " + which + ", " + value, x.cost(which, value), Check.OUTSIDE);
                check.due("it stays", x.told(5 + which), 5);
            }
            check.due("the next one stays", x.told(5 + (which + 1) % 3), 1);
            check.due("the one behind it stays", x.told(5 + (which + 2) % 3), 1);
        }
    }

    private static void costWhich() {
        check.sentence("Promise 12: 0 DROP, 1 PUT, 2 CHANGE; OUTSIDE");
        MendTexts x = new MendTexts();
        for (int which : new int[] {-1, 3, 4, 5, 10, Integer.MIN_VALUE, Integer.MAX_VALUE}) {
            for (int value : new int[] {0, 1, 9, 10}) {
                check.due("cost " + which + ", " + value, x.cost(which, value), Check.OUTSIDE);
            }
        }
        for (int which = 0; which < 3; which++) {
            check.due("it stays", x.told(5 + which), 1);
        }
        costs(x, 2, 3, 4);
        Check.grammar(x, "A=_|abcd");
        Check.word(x, "abcda");
        check.due("0 is DROP", x.mend(0, 0, 5), 2);
        Check.word(x, "abd");
        check.due("1 is PUT", x.mend(0, 0, 3), 3);
        Check.word(x, "abcc");
        check.due("2 is CHANGE", x.mend(0, 0, 4), 4);
    }

    private static void whatCosts() {
        check.sentence("Terms 3: DROP (a LETTER goes), PUT (one comes), CHANGE (it becomes another one)");
        check.due("the same letter costs nothing", at("A=a", "a", 9, 9, 9).mend(0, 0, 1), 0);
        check.due("one DROP", at("A=_", "a", 9, 1, 1).mend(0, 0, 1), 9);
        check.due("one PUT", at("A=a", "", 1, 9, 1).mend(0, 0, 0), 9);
        check.due("one CHANGE", at("A=b", "a", 9, 9, 9).mend(0, 0, 1), 9);
        check.due("DROP and PUT are as cheap", at("A=b", "a", 4, 5, 9).mend(0, 0, 1), 9);
        check.due("DROP and PUT are cheaper", at("A=b", "a", 4, 4, 9).mend(0, 0, 1), 8);
        check.due("CHANGE is cheaper", at("A=b", "a", 4, 5, 8).mend(0, 0, 1), 8);
        check.due("six DROPS at 9", at("A=_", "abcdab", 9, 1, 1).mend(0, 0, 6), 54);
        check.due("six CHANGES at 9", at("A=BB;B=ddd", "aaaaaa", 9, 9, 9).mend(0, 0, 6), 54);
        check.due("twelve PUTS at 9", at("A=BBB;B=dddd", "", 9, 9, 9).mend(0, 0, 0), 108);
        check.due("a letter that moves", at("A=abcd", "bcda", 1, 1, 1).mend(0, 0, 4), 2);
        check.due("two letters that change places", at("A=ab", "ba", 9, 9, 1).mend(0, 0, 2), 2);
    }

    private static void leastCost() {
        check.sentence("Terms 3: MEND: the least cost to make it a word of the NAME, over all its words");
        check.due("the last rule is the cheapest", Check.of("A=dddd|ccc|bb|a", "a").mend(0, 0, 1), 0);
        check.due("the first rule is the cheapest", Check.of("A=a|bb|ccc|dddd", "a").mend(0, 0, 1), 0);
        check.due("a long word is the cheapest", at("A=AA|ab|d", "ababab", 9, 9, 9).mend(0, 0, 6), 0);
        check.due("a rule that comes to nothing", Check.of("A=abB|dd", "ab").mend(0, 0, 2), 2);
        check.due("by itself", Check.of("A=A|AA|a", "aaa").mend(0, 0, 3), 0);
        check.due("through all names", Check.of("A=B;B=C;C=D;D=E;E=F;F=aAb|c", "aacbb").mend(0, 0, 5), 0);
        check.due("through all names", Check.of("F=E;E=D;D=C;C=B;B=A;A=aFb|c", "aacb").mend(5, 0, 4), 1);
        // What is found last, through all names, stands twice in a rule of its own.
        MendTexts x = at("F=E|FFa;E=D;D=C;C=B;B=A;A=b", "ba", 9, 1, 1);
        check.due("through all names, twice", x.mend(5, 0, 2), 1);
        check.due("its text", Check.text(x), "bba");
    }

    private static void mendParts() {
        check.sentence("Promise 13: OUTSIDE: from 0 to till, till no more than the WORD's LETTERS");
        for (int length = 0; length <= 6; length++) {
            MendTexts x = Check.of("A=_", "abcdab".substring(0, length));
            for (int from = -2; from <= 8; from++) {
                for (int till = -2; till <= 8; till++) {
                    boolean part = from >= 0 && from <= till && till <= length;
                    check.due("mend of " + length + ", " + from + ", " + till, x.mend(0, from, till),
                            part ? till - from : Check.OUTSIDE);
                }
            }
            for (int far : FAR) {
                check.due("mend from " + far, x.mend(0, far, length), Check.OUTSIDE);
                check.due("mend till " + far, x.mend(0, 0, far), Check.OUTSIDE);
                check.due("mend from and till " + far, x.mend(0, far, far), Check.OUTSIDE);
            }
        }
        check.sentence("Terms 3: MEND of a part of the WORD, from a place till (not counted) another one");
        MendTexts x = Check.of("A=bc;B=_|b", "abcd");
        check.due("the part in the middle", x.mend(0, 1, 3), 0);
        check.due("a letter more at its end", x.mend(0, 1, 4), 1);
        check.due("a letter more ahead of it", x.mend(0, 0, 3), 1);
        check.due("a letter less", x.mend(0, 1, 2), 1);
        check.due("one letter", x.mend(1, 1, 2), 0);
        check.due("one other letter", x.mend(1, 2, 3), 1);
        check.due("no letter, at the beginning", x.mend(1, 0, 0), 0);
        check.due("no letter, at the end", x.mend(1, 4, 4), 0);
        check.due("no letter, at the end", x.mend(0, 4, 4), 2);
    }

    private static void mendNothing() {
        check.sentence("Promise 13: NO: the NAME comes to NOTHING");
        MendTexts x = Check.of("A=aB|c;B=aB", "ab");
        check.due("a name that never ends", x.mend(1, 0, 2), Check.NO);
        check.due("the empty part", x.mend(1, 0, 0), Check.NO);
        check.due("the empty part at the end", x.mend(1, 2, 2), Check.NO);
        check.due("a name without rules", x.mend(5, 0, 2), Check.NO);
        check.due("OUTSIDE ahead of NO", x.mend(1, 0, 3), Check.OUTSIDE);
        check.due("OUTSIDE ahead of NO", x.mend(5, -1, 0), Check.OUTSIDE);
        check.due("OUTSIDE ahead of NO", x.mend(5, 2, 1), Check.OUTSIDE);
        check.due("START comes to words", x.mend(0, 0, 2), 2);
        check.due("START that comes to nothing", Check.of("A=A;B=b", "b").mend(0, 0, 1), Check.NO);
        check.due("another name that comes to words", Check.of("A=A;B=b", "b").mend(1, 0, 1), 0);
    }

    private static void mendUnknown() {
        check.sentence("Promise 13: UNKNOWN, ahead of OUTSIDE");
        MendTexts x = Check.of("A=a;F=b", "a");
        for (int name : NO_NAMES) {
            check.due("mend of name " + name, x.mend(name, 0, 1), Check.UNKNOWN);
            check.due("mend of name " + name, x.mend(name, -1, 1), Check.UNKNOWN);
            check.due("mend of name " + name, x.mend(name, 1, 0), Check.UNKNOWN);
            check.due("mend of name " + name, x.mend(name, 0, 2), Check.UNKNOWN);
        }
        check.due("the first name", x.mend(0, 0, 1), 0);
        check.due("the last name", x.mend(5, 0, 1), 1);
    }

    private static void mendOfTheLeastAndTheMost() {
        check.sentence("Terms 3: MEND, the least and the most");
        String most = "A=BBBB;B=CCCC;C=DDDD;D=EEEE;E=FFFF;F=dddd";
        check.due("4096 PUTS at 9", at(most, "", 9, 9, 9).mend(0, 0, 0), 36864);
        check.due("six CHANGES, 4090 PUTS", at(most, "aaaaaa", 9, 9, 9).mend(0, 0, 6), 36864);
        check.due("six DROPS, 4096 PUTS", at(most, "aaaaaa", 1, 7, 9).mend(0, 0, 6), 6 + 4096 * 7);
        check.due("4090 PUTS", at(most, "dddddd", 9, 9, 9).mend(0, 0, 6), 4090 * 9);
        check.due("nothing to do", at(most, "dddd", 9, 9, 9).mend(5, 0, 4), 0);
        check.due("its text is not told", at(most, "", 9, 9, 9).text(-1), Check.STATE);
    }

    private static void text(MendTexts x, String due) {
        check.due("the text", Check.text(x), due);
    }

    private static void textIsLeast() {
        check.sentence("Terms 3: TEXT: of the words of START of which NEAR of the WORD is MEND of it whole");
        text(Check.of("A=abcd|a", "abc"), "abcd");
        text(Check.of("A=abcd|a", "ab"), "a");
        text(at("A=abcd|a", "ab", 9, 1, 1), "abcd");
        text(at("A=abcd|a", "ab", 3, 1, 1), "abcd");
        text(at("A=abcd|a", "ab", 2, 1, 1), "a");
        text(Check.of("B=a;A=b", "b"), "a");
        text(Check.of("A=b;B=a", "a"), "b");
        text(Check.of("A=_", "abcdab"), "");
        text(Check.of("A=_", ""), "");
        text(Check.of("A=ab", ""), "ab");
    }

    private static void textShortest() {
        check.sentence("Terms 3: TEXT: the shortest");
        text(Check.of("A=aaa|a", "aa"), "a");
        text(Check.of("A=a|aaa", "aa"), "a");
        text(Check.of("A=aab|d", "aa"), "aab");
        text(at("A=aab|d", "aa", 1, 2, 1), "d");
        text(at("A=aab|d", "aa", 1, 1, 1), "aab");
        text(Check.of("A=AA|a|_", "b"), "");
        text(Check.of("A=BB;B=aa|b|_", "ab"), "b");
        text(at("A=_|dd", "cc", 1, 9, 1), "");
        text(at("A=_|dd", "cc", 2, 9, 1), "dd");
    }

    private static void textFirstByLetters() {
        check.sentence("Terms 3: TEXT: of several the first by LETTERS");
        text(Check.of("A=d|c|b", "a"), "b");
        text(Check.of("A=b|c|d", "a"), "b");
        text(Check.of("A=ba|ab", "cc"), "ab");
        text(Check.of("A=ad|ac", "ab"), "ac");
        text(Check.of("A=db|bd", "aa"), "bd");
        text(Check.of("A=BC;B=b|ba;C=c|ac", "bc"), "bc");
        text(at("A=BC;B=d|cc;C=dd|b", "aaa", 2, 1, 1), "ccb");
        text(Check.of("A=BBBB;B=dbd|dbc", ""), "dbcdbcdbcdbc");
        text(Check.of("A=BBBb|BBBa;B=ddd", ""), "ddddddddda");
    }

    private static void textTwelve() {
        check.sentence("Terms 3: more than 12 LETTERS: it is not told. Promise 14: STATE");
        text(Check.of("A=BBB;B=abcd", "abcd"), "abcdabcdabcd");
        text(Check.of("A=BBBa;B=abcd", "abcd"), "-3");
        text(Check.of("A=BBB|BBBa;B=abcd", "abcd"), "abcdabcdabcd");
        // The cheapest is taken, though it is not told and another one would be.
        MendTexts x = at("A=BBBa|dddd;B=abcd", "abcabc", 9, 1, 9);
        check.due("the cheapest has 13 letters", x.mend(0, 0, 6), 7);
        for (int j : new int[] {-2, -1, 0, 11, 12, 13, Integer.MIN_VALUE, Integer.MAX_VALUE}) {
            check.due("text " + j, x.text(j), Check.STATE);
        }
        x.cost(1, 9);
        x.cost(0, 1);
        text(x, "dddd");
        x = Check.of("A=BBBB;B=CCCC;C=abcd", "abcd");
        check.due("64 letters", x.text(-1), Check.STATE);
        check.due("64 letters", x.mend(0, 0, 4), 60);
    }

    private static void textPlaces() {
        check.sentence("Promise 14: TEXT: how many LETTERS (j = -1), the j-th one; NONE");
        MendTexts x = Check.of("A=BBB;B=dcba", "d");
        check.due("letters", x.text(-1), 12);
        for (int j = 0; j < 12; j++) {
            check.due("letter " + j, x.text(j), 3 - j % 4);
        }
        for (int j : new int[] {12, 13, -2, -3, Integer.MIN_VALUE, Integer.MAX_VALUE}) {
            check.due("letter " + j, x.text(j), Check.NONE);
        }
        x = Check.of("A=_", "d");
        check.due("the empty text", x.text(-1), 0);
        check.due("the empty text, letter 0", x.text(0), Check.NONE);
        check.due("the empty text, letter -2", x.text(-2), Check.NONE);
        x = Check.of("A=c", "c");
        check.due("one letter", x.text(-1), 1);
        check.due("letter 0", x.text(0), 2);
        check.due("letter 1", x.text(1), Check.NONE);
    }

    private static void textNothing() {
        check.sentence("Promise 14: NO: START comes to NOTHING");
        MendTexts x = Check.of("A=aA;B=b", "b");
        for (int j : new int[] {-2, -1, 0, 12, Integer.MIN_VALUE, Integer.MAX_VALUE}) {
            check.due("text " + j, x.text(j), Check.NO);
            check.due("text " + j + " without a grammar", new MendTexts().text(j), Check.NO);
        }
        text(Check.of("B=b;A=aA", "b"), "b");
    }

    private static void ways(MendTexts x, int due) {
        check.due("ways", x.ways(), due);
    }

    private static void waysOne() {
        check.sentence("Terms 3: WAYS: rows of pairs, from left to right, that cost NEAR");
        ways(Check.of("A=_", ""), 1);
        ways(Check.of("A=_", "a"), 1);
        ways(Check.of("A=_", "abcdab"), 1);
        ways(Check.of("A=a", ""), 1);
        ways(Check.of("A=BBB;B=abcd", ""), 1);
        ways(Check.of("A=BB;B=abc", "abcabc"), 1);
        ways(Check.of("A=b", "a"), 1);
        ways(Check.of("A=a", "aa"), 2);
        ways(Check.of("A=aa", "a"), 2);
        ways(Check.of("A=ab", "aab"), 2);
        ways(Check.of("A=bb", "aaa"), 3);
        ways(Check.of("A=bbb", "aa"), 3);
    }

    private static void waysDropAndPut() {
        check.sentence("Terms 3: WAYS: DROP ahead of PUT and PUT ahead of DROP are two");
        ways(at("A=b", "a", 1, 1, 1), 1);
        ways(at("A=b", "a", 1, 1, 2), 3);
        ways(at("A=b", "a", 1, 1, 3), 2);
        ways(at("A=b", "a", 4, 5, 9), 3);
        ways(at("A=b", "a", 5, 5, 9), 1);
        ways(at("A=b", "a", 4, 4, 9), 2);
        // Two DROPS and two PUTS in any order.
        ways(at("A=bb", "aa", 1, 1, 3), 6);
        ways(at("A=bb", "aa", 1, 1, 2), 13);
    }

    private static void waysMost() {
        check.sentence("Terms 3: WAYS, the most: of six LETTERS and twelve (below 1000000, at which it is held)");
        MendTexts x = at("A=BBB;B=bbbb", "aaaaaa", 1, 1, 2);
        check.due("letters of the text", x.text(-1), 12);
        ways(x, 369305);
        x.cost(2, 1);
        ways(x, 924);
        costs(x, 1, 1, 3);
        ways(x, 18564);
        costs(x, 4, 4, 8);
        ways(x, 369305);
        costs(x, 4, 5, 9);
        ways(x, 369305);
    }

    private static void waysRefused() {
        check.sentence("Promise 15: NO, STATE, likewise");
        ways(new MendTexts(), Check.NO);
        ways(Check.of("A=A", ""), Check.NO);
        ways(Check.of("A=aA|B;C=a", "aa"), Check.NO);
        ways(Check.of("A=BBB;B=abcd", "abcdab"), 7);
        ways(Check.of("A=BBBa;B=abcd", ""), Check.STATE);
        ways(Check.of("A=BBBB;B=CCCC;C=abcd", "abcdab"), Check.STATE);
    }

    private static void kept(MendTexts x, String due) {
        check.due("kept", Check.kept(x), due);
    }

    private static void keptByAllSomeNone() {
        check.sentence("Terms 3: A LETTER of the WORD is KEPT by all of them (2), by some (1), by none (0)");
        kept(Check.of("A=BB;B=abc", "abcabc"), "222222");
        kept(Check.of("A=a", "aa"), "11");
        kept(Check.of("A=_", "aa"), "00");
        kept(Check.of("A=ab", "abb"), "211");
        kept(Check.of("A=ab", "aab"), "112");
        kept(Check.of("A=ac", "aabbcc"), "110011");
        kept(Check.of("A=b", "a"), "0");
        kept(at("A=b", "a", 1, 1, 9), "0");
        kept(at("A=ab", "ba", 1, 1, 1), "11");
        kept(at("A=ab", "ba", 1, 1, 9), "11");
        kept(at("A=ab", "ba", 9, 9, 1), "00");
        kept(Check.of("A=BBB;B=aaaa", "aaaaaa"), "222222");
        kept(at("A=BBB;B=bbbb", "aaaaaa", 1, 1, 2), "000000");
        kept(Check.of("A=BBB;B=abcd", "d"), "2");
    }

    private static void keptBesideTheSame() {
        check.sentence("Terms 3: KEPT: it stands beside the same LETTER");
        kept(Check.of("A=bbbb", "aba"), "020");
        // DROP and PUT of the same letter keep nothing, and cost more than to keep it.
        kept(at("A=a", "a", 1, 1, 9), "2");
        kept(Check.of("A=dd", "cd"), "02");
        kept(Check.of("A=dd", "dc"), "20");
        kept(Check.of("A=dd", "ddd"), "111");
        kept(at("A=cd", "dcdc", 1, 9, 9), "0220");
        kept(at("A=dc", "dcdc", 1, 9, 9), "1111");
    }

    private static void keptOutside() {
        check.sentence("Promise 16: KEPT of the i-th LETTER. OUTSIDE");
        for (int length = 0; length <= 6; length++) {
            MendTexts x = Check.of("A=aA|_", "aaaaaa".substring(0, length));
            for (int i = -3; i <= 9; i++) {
                check.due("kept " + i + " of " + length, x.kept(i), i >= 0 && i < length ? 2 : Check.OUTSIDE);
            }
            for (int far : FAR) {
                check.due("kept " + far + " of " + length, x.kept(far), Check.OUTSIDE);
            }
        }
        check.due("the text is longer than the word", Check.of("A=aaaa", "aa").kept(2), Check.OUTSIDE);
    }

    private static void keptRefused() {
        check.sentence("Promise 16: NO, STATE, likewise, behind OUTSIDE");
        MendTexts x = Check.of("A=A", "ab");
        check.due("kept 0, START comes to nothing", x.kept(0), Check.NO);
        check.due("kept 1, START comes to nothing", x.kept(1), Check.NO);
        check.due("kept 2, START comes to nothing", x.kept(2), Check.OUTSIDE);
        check.due("kept -1, START comes to nothing", x.kept(-1), Check.OUTSIDE);
        check.due("kept 0 of a new object", new MendTexts().kept(0), Check.OUTSIDE);
        x = Check.of("A=BBBa;B=abcd", "ab");
        check.due("kept 0, not told", x.kept(0), Check.STATE);
        check.due("kept 1, not told", x.kept(1), Check.STATE);
        check.due("kept 2, not told", x.kept(2), Check.OUTSIDE);
        check.due("kept -1, not told", x.kept(-1), Check.OUTSIDE);
    }
}
