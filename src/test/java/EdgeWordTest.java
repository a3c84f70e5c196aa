/** Each sentence of "Terms" 2 and of promises 9 to 11 that names a boundary, by itself. */
final class EdgeWordTest {
    private static final Check check = new Check();
    private static final int[] NO_NAMES = {-1, 6, 7, 10, 15, 65, Integer.MIN_VALUE, Integer.MAX_VALUE};

    public static void main(String[] args) {
        emptyAtFirst();
        upToSix();
        otherSigns();
        wordEmptiesThePad();
        wordRefused();
        isOneOrZero();
        isUnknown();
        firstZero();
        firstCounts();
        firstNone();
        firstUnknown();
        check.end("EdgeWordTest");
    }

    private static void emptyAtFirst() {
        check.sentence("Terms 2: A WORD: up to 6 LETTERS (empty at first)");
        MendTexts x = new MendTexts();
        Check.grammar(x, "A=_;B=a");
        check.due("letters", x.told(3), 0);
        check.due("it is of A", x.is(0), 1);
        check.due("it is not of B", x.is(1), 0);
        check.due("no letter is kept", x.kept(0), Check.OUTSIDE);
        check.due("no part but the empty one", x.mend(1, 0, 0), 1);
        check.due("no part but the empty one", x.mend(1, 0, 1), Check.OUTSIDE);
    }

    private static void upToSix() {
        check.sentence("Promise 9: The PAD becomes the WORD: LETTERS. NO: more than 6");
        for (int length = 0; length <= 60; length++) {
            MendTexts x = new MendTexts();
            Check.say(x, "abcd".repeat(15).substring(0, length));
            check.due("word of " + length, x.word(), length <= 6 ? length : Check.NO);
            check.due("signs", x.told(0), length <= 6 ? 0 : length);
            check.due("letters", x.told(3), length <= 6 ? length : 0);
        }
    }

    private static void otherSigns() {
        check.sentence("Promise 9: NO: another sign is there");
        for (int code = 33; code <= 126; code++) {
            boolean letter = code >= 'a' && code <= 'd';
            String sign = "" + (char) code;
            MendTexts x = new MendTexts();
            check.due("word of " + sign, Check.word(x, sign), letter ? 1 : Check.NO);
            check.due("word of aaaaa" + sign, Check.word(x, "aaaaa" + sign), letter ? 6 : Check.NO);
            check.due("word of " + sign + "bcd", Check.word(x, sign + "bcd"), letter ? 4 : Check.NO);
            check.due("word of dd" + sign + "d", Check.word(x, "dd" + sign + "d"), letter ? 4 : Check.NO);
        }
        for (char letter = 'a'; letter <= 'd'; letter++) {
            for (char other = 'a'; other <= 'd'; other++) {
                check.due("the letter is the sign's", Check.of("A=" + other, "" + letter).is(0),
                        letter == other ? 1 : 0);
            }
        }
    }

    private static void wordEmptiesThePad() {
        check.sentence("Promise 9: The PAD becomes the WORD (it is empty then)");
        MendTexts x = Check.of("A=abc|_", "abc");
        check.due("signs", x.told(0), 0);
        check.due("wipe", x.wipe(), 0);
        check.due("it is of A", x.is(0), 1);
        check.due("the empty pad becomes the empty word", x.word(), 0);
        check.due("letters", x.told(3), 0);
        check.due("the text of it", Check.text(x), "");
        Check.word(x, "abcdab");
        Check.word(x, "ab");
        check.due("a shorter one", x.told(3), 2);
        check.due("a shorter one", x.mend(0, 0, 3), Check.OUTSIDE);
        check.due("a shorter one, at its end", x.mend(0, 0, 2), 1);
        check.due("the grammar stays", x.told(10), 2);
    }

    private static void wordRefused() {
        check.sentence("Promise 9: NO changes nothing");
        MendTexts x = Check.of("A=ab|_", "abd");
        for (String signs : new String[] {"e", "A", "_", "ababab_", "aaaaaaa", "A=a"}) {
            x.wipe();
            Check.say(x, signs);
            check.due("word of " + signs, x.word(), Check.NO);
            check.due("the signs stay", x.told(0), signs.length());
            check.due("the letters stay", x.told(3), 3);
            check.due("the word stays", Check.kept(x), "220");
        }
        check.due("the pad can become the grammar", x.grammar(), 1);
        check.due("it is that of the pad", x.told(10), 1);
    }

    private static void isOneOrZero() {
        check.sentence("Promise 10: Whether the WORD IS of a NAME: 1, 0");
        check.due("the empty word", Check.of("A=_", "").is(0), 1);
        check.due("the empty word", Check.of("A=a", "").is(0), 0);
        check.due("six letters", Check.of("A=BB;B=abc", "abcabc").is(0), 1);
        check.due("six letters of seven", Check.of("A=BBa;B=abc", "abcabc").is(0), 0);
        check.due("six letters of five", Check.of("A=BC;B=abc;C=ab", "abcabc").is(0), 0);
        check.due("a part of it", Check.of("A=b;B=AA", "bb").is(0), 0);
        check.due("the whole", Check.of("A=b;B=AA", "bb").is(1), 1);
        check.due("a name that comes to nothing", Check.of("A=aA|B", "a").is(0), 0);
        check.due("a name without rules", Check.of("A=a", "a").is(5), 0);
        check.due("an empty word, a name without rules", Check.of("A=a", "").is(5), 0);
        for (int name = 0; name < 6; name++) {
            MendTexts x = Check.of((char) ('A' + name) + "=a", "a");
            for (int other = 0; other < 6; other++) {
                check.due("is of " + other + " in a grammar of " + name, x.is(other), other == name ? 1 : 0);
            }
        }
        for (int cost = 1; cost <= 9; cost += 8) {
            MendTexts x = Check.of("A=ab", "ac");
            x.cost(0, cost);
            x.cost(1, cost);
            x.cost(2, cost);
            check.due("whatever it costs", x.is(0), 0);
            Check.word(x, "ab");
            check.due("whatever it costs", x.is(0), 1);
        }
    }

    private static void isUnknown() {
        check.sentence("Promise 10: UNKNOWN");
        MendTexts x = Check.of("A=a;F=a", "a");
        for (int name : NO_NAMES) {
            check.due("is of name " + name, x.is(name), Check.UNKNOWN);
        }
        check.due("is of the first name", x.is(0), 1);
        check.due("is of the last name", x.is(5), 1);
    }

    private static void first(String grammar, String word, int due) {
        MendTexts x = Check.of(grammar, word);
        check.due("first of " + word + " in " + grammar, x.first(x.told(2)), due);
    }

    private static void firstZero() {
        check.sentence("Terms 2: FIRST (0: it comes to NOTHING)");
        first("A=A", "", 0);
        first("A=A", "a", 0);
        first("A=aA", "aaaaaa", 0);
        first("A=aB", "a", 0);
        first("A=aB|B", "", 0);
        check.due("a name without rules", Check.of("A=a", "").first(1), 0);
        // A name that comes to a word: its words begin with no letters at all.
        first("A=_", "", Check.NONE);
        first("A=_", "a", 1);
        first("A=b", "a", 1);
        first("A=b", "aaaaaa", 1);
    }

    private static void firstCounts() {
        check.sentence("Terms 2: FIRST: the least number of LETTERS such that no word begins with so many");
        for (int count = 1; count <= 6; count++) {
            String word = "aaaaaa".substring(0, count - 1) + "b";
            first("A=aA|a", word, count);
            first("A=aA|a", (word + "bbbbb").substring(0, 6), count);
            first("A=Aa|a", (word + "aaaaa").substring(0, 6), count);
        }
        first("A=abcd", "abcda", 5);
        first("A=abcd", "abcdab", 5);
        first("A=BBB;B=ab", "abababa".substring(0, 6), Check.NONE);
        first("A=BB;B=ab", "ababab", 5);
        first("A=BBa;B=ab", "ababab", 6);
        first("A=BBa;B=ab", "ababaa", 6);
        first("A=ab|aB;B=B", "ac", 2);
        first("A=ab|acB;B=B", "acb", 2);
        first("A=ab|ac|B;B=ad|Bd", "adddda", 6);
        first("F=A;A=B;B=C;C=D;D=E;E=abF|_", "ababaa", 6);
        first("F=A;A=B;B=C;C=D;D=E;E=abF|_", "b", 1);
        first("A=F;F=E;E=D;D=C;C=B;B=abA|_", "ababaa", 6);
        first("F=E;E=D;D=C;C=B;B=A;A=abA|_", "ababaa", 6);
    }

    private static void firstNone() {
        check.sentence("Terms 2: FIRST: none: some word begins with the whole WORD");
        first("A=abcd", "", Check.NONE);
        first("A=abcd", "a", Check.NONE);
        first("A=abcd", "abc", Check.NONE);
        first("A=abcd", "abcd", Check.NONE);
        first("A=BBBB;B=CCCC;C=abcd", "abcdab", Check.NONE);
        first("A=BBBB;B=CCCC;C=abcd", "bcdabc", 1);
        first("A=aA|b", "aaaaaa", Check.NONE);
        first("A=Ab|a", "abbbbb", Check.NONE);
        first("A=bc|_", "", Check.NONE);
        first("A=bc|a", "b", Check.NONE);
        first("A=aB|c;B=Bb|_", "abbbbb", Check.NONE);
        first("F=A;A=B;B=C;C=D;D=E;E=abF|_", "ababab", Check.NONE);
        first("A=F;F=E;E=D;D=C;C=B;B=abA|_", "ababab", Check.NONE);
        first("F=E;E=D;D=C;C=B;B=A;A=abA|_", "ababab", Check.NONE);
        first("F=E;E=D;D=C;C=B;B=A;A=abF|_", "ababab", Check.NONE);
    }

    private static void firstUnknown() {
        check.sentence("Promise 11: UNKNOWN");
        MendTexts x = Check.of("A=a;F=b", "a");
        for (int name : NO_NAMES) {
            check.due("first of name " + name, x.first(name), Check.UNKNOWN);
        }
        check.due("first of the first name", x.first(0), Check.NONE);
        check.due("first of the last name", x.first(5), 1);
    }
}
