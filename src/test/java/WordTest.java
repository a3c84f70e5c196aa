/** Promises 9 to 11: the word, whether it is of a name, the first letters at which none can go on. */
final class WordTest {
    private static final Check check = new Check();

    public static void main(String[] args) {
        words();
        ises();
        firsts();
        check.end("WordTest");
    }

    private static void words() {
        MendTexts x = new MendTexts();
        check.due("the empty word", x.word(), 0);
        check.due("six letters", Check.word(x, "abcdab"), 6);
        check.due("the pad is empty", x.told(0), 0);
        check.due("told 3", x.told(3), 6);
        check.due("seven letters", Check.word(x, "abcdabc"), Check.NO);
        check.due("the pad stays", x.told(0), 7);
        check.due("the word stays", x.told(3), 6);
        for (String signs : new String[] {"e", "abA", "_", "a_", "ab=", "`a", "a!", "~"}) {
            check.due("no word: " + signs, Check.word(x, signs), Check.NO);
            check.due("the pad stays", x.told(0), signs.length());
        }
        check.due("the word stays", x.told(3), 6);
        check.due("another word", Check.word(x, "d"), 1);
        check.due("told 3", x.told(3), 1);
        check.due("the empty word again", Check.word(x, ""), 0);
        check.due("told 3", x.told(3), 0);
        Check.grammar(x, "A=d");
        Check.word(x, "d");
        check.due("the letter is d", x.is(0), 1);
        Check.word(x, "c");
        check.due("the letter is not d", x.is(0), 0);
    }

    private static void is(String grammar, String word, int name, int due) {
        check.due(word + " is of " + name + " in " + grammar, Check.of(grammar, word).is(name), due);
    }

    private static void ises() {
        is("A=a", "a", 0, 1);
        is("A=a", "b", 0, 0);
        is("A=a", "", 0, 0);
        is("A=_", "", 0, 1);
        is("A=a", "a", 1, 0);
        is("A=B;B=a", "a", 1, 1);
        is("A=aAb|_", "aaabbb", 0, 1);
        is("A=aAb|_", "aabbb", 0, 0);
        is("A=AA|a|_", "aaaaaa", 0, 1);
        is("A=AA|a|_", "aaabaa", 0, 0);
        is("A=AA|a|b", "", 0, 0);
        is("A=BaB;B=AA|_", "a", 0, 1);
        is("A=BaB;B=AA|_", "aa", 0, 0);
        is("A=BaB;B=AA|_", "aaa", 0, 1);
        is("A=B|a;B=C|b;C=A|c", "a", 2, 1);
        is("A=B|a;B=C|b;C=A|c", "c", 0, 1);
        is("A=BCDE;B=a|_;C=b|_;D=c|_;E=d|_", "bd", 0, 1);
        is("A=BCDE;B=a|_;C=b|_;D=c|_;E=d|_", "db", 0, 0);
        is("A=aA|bA|_", "ababab", 0, 1);
        is("A=Aa|Ab|_", "ababab", 0, 1);
        is("A=aAa|bAb|cAc|B;B=a|b|c|_", "abcba", 0, 1);
        is("A=aAa|bAb|cAc|B;B=a|b|c|_", "abccba", 0, 1);
        is("A=aAa|bAb|cAc|B;B=a|b|c|_", "abcbb", 0, 0);
        MendTexts x = Check.of("A=a", "a");
        check.due("no name", x.is(-1), Check.UNKNOWN);
        check.due("no name", x.is(6), Check.UNKNOWN);
        check.due("no name", x.is(Integer.MIN_VALUE), Check.UNKNOWN);
        x.cost(0, 9);
        check.due("costs do not matter", x.is(0), 1);
    }

    private static void first(String grammar, String word, int name, int due) {
        check.due("first of " + word + " for " + name + " in " + grammar,
                Check.of(grammar, word).first(name), due);
    }

    private static void firsts() {
        first("A=a", "a", 0, Check.NONE);
        first("A=a", "b", 0, 1);
        first("A=a", "ab", 0, 2);
        first("A=abcd", "ab", 0, Check.NONE);
        first("A=abcd", "abd", 0, 3);
        first("A=abcd", "", 0, Check.NONE);
        first("A=A", "ab", 0, 0);
        first("A=A", "", 0, 0);
        first("A=a", "a", 5, 0);
        first("A=_", "a", 0, 1);
        first("A=_", "", 0, Check.NONE);
        first("A=aAb|_", "aaaaaa", 0, Check.NONE);
        first("A=aAb|_", "aabba", 0, 5);
        first("A=aAb|_", "abb", 0, 3);
        first("A=aB|ab;B=B", "ab", 0, Check.NONE);
        first("A=aB|ab;B=B", "aa", 0, 2);
        first("A=abcC|ab;C=C", "abc", 0, 3);
        first("A=BC;B=a|aa|_;C=bB", "aab", 0, Check.NONE);
        first("A=BC;B=a|aa|_;C=bB", "aaab", 0, 3);
        first("A=BC;B=a|aa|_;C=bB", "baaa", 0, 4);
        first("A=Ab|a", "abbbbb", 0, Check.NONE);
        first("A=Ab|a", "abbbba", 0, 6);
        first("A=B|c;B=Ad|_", "dddddd", 0, Check.NONE);
        first("A=B|c;B=Ad|_", "cdddcd", 0, 5);
        first("A=BBBB;B=CCCC;C=ab", "ababab", 0, Check.NONE);
        first("A=BBBB;B=CCCC;C=ab", "ababaa", 0, 6);
        first("A=BCDE;B=a|_;C=b|_;D=c|_;E=d", "acd", 0, Check.NONE);
        first("A=BCDE;B=a|_;C=b|_;D=c|_;E=d", "aca", 0, 3);
        first("A=F;F=E;E=D;D=C;C=B;B=abAb|_", "abab", 0, Check.NONE);
        first("F=A;A=B;B=C;C=D;D=E;E=abFb|_", "abaa", 5, 4);
        MendTexts x = Check.of("A=a", "a");
        check.due("no name", x.first(-1), Check.UNKNOWN);
        check.due("no name", x.first(6), Check.UNKNOWN);
        x.cost(2, 3);
        check.due("costs do not matter", x.first(0), Check.NONE);
    }
}
