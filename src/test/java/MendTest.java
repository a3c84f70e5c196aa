/** Promises 12 to 16: costs, mends, the text, ways to it, kept letters. */
final class MendTest {
    private static final Check check = new Check();

    public static void main(String[] args) {
        costs();
        mends();
        mendsAtCosts();
        texts();
        ways();
        check.end("MendTest");
    }

    private static void costs() {
        MendTexts x = new MendTexts();
        for (int which = 0; which < 3; which++) {
            check.due("cost was", x.cost(which, 4 + which), 1);
            check.due("cost was", x.cost(which, 9), 4 + which);
            check.due("cost 0", x.cost(which, 0), Check.OUTSIDE);
            check.due("cost 10", x.cost(which, 10), Check.OUTSIDE);
            check.due("cost -1", x.cost(which, -1), Check.OUTSIDE);
            check.due("cost stays", x.told(5 + which), 9);
            check.due("cost was", x.cost(which, 1), 9);
            check.due("cost is", x.told(5 + which), 1);
        }
        check.due("no cost", x.cost(-1, 1), Check.OUTSIDE);
        check.due("no cost", x.cost(3, 1), Check.OUTSIDE);
        check.due("no cost", x.cost(Integer.MAX_VALUE, 1), Check.OUTSIDE);
        check.due("no value", x.cost(0, Integer.MIN_VALUE), Check.OUTSIDE);
    }

    private static void mend(String grammar, String word, int due) {
        MendTexts x = Check.of(grammar, word);
        check.due("mend of " + word + " in " + grammar, x.mend(x.told(2), 0, word.length()), due);
    }

    private static void mends() {
        mend("A=abc", "abc", 0);
        mend("A=abc", "abd", 1);
        mend("A=abc", "ab", 1);
        mend("A=abc", "abcd", 1);
        mend("A=abc", "", 3);
        mend("A=_", "abcd", 4);
        mend("A=_|a", "abcd", 3);
        mend("A=aAb|_", "ba", 2);
        mend("A=aAb|_", "bbbaaa", 5);
        mend("A=aAb|_", "ababab", 2);
        mend("A=aAa|bAb|_", "abc", 2);
        mend("F=E;E=aaE|b", "aab", 0);
        mend("F=E;E=aaE|b", "aaab", 1);
        MendTexts x = Check.of("B=AA;A=ab|C", "aabb");
        check.due("a part", x.mend(0, 1, 3), 0);
        check.due("a part", x.mend(0, 0, 2), 1);
        check.due("an empty part", x.mend(0, 2, 2), 2);
        check.due("an empty part at the end", x.mend(1, 4, 4), 4);
        check.due("the whole", x.mend(1, 0, 4), 2);
        check.due("nothing", x.mend(2, 0, 4), Check.NO);
        check.due("no name", x.mend(-1, 0, 4), Check.UNKNOWN);
        check.due("no name, ahead of OUTSIDE", x.mend(6, 5, 4), Check.UNKNOWN);
        check.due("from below 0", x.mend(0, -1, 4), Check.OUTSIDE);
        check.due("from behind till", x.mend(0, 3, 2), Check.OUTSIDE);
        check.due("till too far", x.mend(0, 0, 5), Check.OUTSIDE);
        check.due("from too far", x.mend(0, 5, 5), Check.OUTSIDE);
        check.due("OUTSIDE ahead of NO", x.mend(2, 0, 5), Check.OUTSIDE);
        check.due("far away", x.mend(0, Integer.MIN_VALUE, Integer.MAX_VALUE), Check.OUTSIDE);
        check.due("far away", x.mend(0, Integer.MAX_VALUE, Integer.MIN_VALUE), Check.OUTSIDE);
    }

    private static void mendsAtCosts() {
        MendTexts x = Check.of("A=abc|dddd", "abd");
        x.cost(2, 9);
        check.due("drop and put for a change", x.mend(0, 0, 3), 2);
        x.cost(0, 5);
        check.due("drop and put for a change", x.mend(0, 0, 3), 6);
        x.cost(2, 4);
        check.due("a change", x.mend(0, 0, 3), 4);
        x.cost(1, 9);
        check.due("a change", x.mend(0, 0, 3), 4);
        check.due("puts and a change", x.mend(0, 0, 1), 18);
        x.cost(1, 1);
        check.due("two puts", x.mend(0, 0, 1), 2);
        Check.grammar(x, "A=_");
        check.due("drops alone", x.mend(0, 0, 3), 15);
    }

    private static void text(MendTexts x, String due) {
        String got = Check.text(x);
        check.holds("the text is " + due + ", not " + got, got.equals(due));
    }

    private static void text(String grammar, String word, String due) {
        String got = Check.text(Check.of(grammar, word));
        check.holds("the text of " + word + " in " + grammar + " is " + due + ", not " + got, got.equals(due));
    }

    private static void texts() {
        text("A=abc", "abc", "abc");
        text("A=aAb|_", "abb", "ab");
        text("A=aAb|_", "aab", "ab");
        text("A=aAb|_", "ba", "");
        text("A=ac|ab", "ad", "ab");
        text("A=acc|ad", "ac", "ad");
        text("A=bb|b|aa", "ab", "b");
        text("A=bcB|cB;B=b|a", "cc", "ca");
        text("A=BB;B=d|cc", "cd", "dd");
        text("A=BBBB;B=ab|c", "", "cccc");
        text("A=Ba|dd;B=Cb|c;C=aA|_", "bad", "ba");
        text("A=BBB;B=abcd", "", "abcdabcdabcd");
        text("A=BBBa;B=abcd", "", "-3");
        text("A=BBBa|aaaa;B=abcd", "", "aaaa");
        text("A=A", "a", "-5");
        text("A=aA", "a", "-5");
        text("F=A;A=dc", "ab", "dc");
        MendTexts x = Check.of("A=abc", "b");
        check.due("text", x.text(2), 2);
        check.due("text, behind its end", x.text(3), Check.NONE);
        check.due("text, ahead of it", x.text(-2), Check.NONE);
        check.due("text, far away", x.text(Integer.MIN_VALUE), Check.NONE);
        check.due("text, far away", x.text(Integer.MAX_VALUE), Check.NONE);
        x = Check.of("A=BBBa;B=abcd", "abcd");
        check.due("not told", x.text(Integer.MAX_VALUE), Check.STATE);
        check.due("not told", x.ways(), Check.STATE);
        check.due("not told", x.kept(0), Check.STATE);
        check.due("OUTSIDE ahead of STATE", x.kept(4), Check.OUTSIDE);
        check.due("the mend is told", x.mend(0, 0, 4), 9);
        x = Check.of("A=A", "ab");
        check.due("nothing", x.text(0), Check.NO);
        check.due("nothing", x.ways(), Check.NO);
        check.due("nothing", x.kept(1), Check.NO);
        check.due("OUTSIDE ahead of NO", x.kept(2), Check.OUTSIDE);
        check.due("OUTSIDE ahead of NO", x.kept(-1), Check.OUTSIDE);
        // What is told follows each change of grammar, word and costs.
        x = Check.of("A=aab|c", "ab");
        text(x, "aab");
        x.cost(1, 3);
        text(x, "c");
        Check.word(x, "a");
        text(x, "c");
        Check.grammar(x, "A=ad");
        text(x, "ad");
    }

    private static void ways(String grammar, String word, int ways, String kept) {
        MendTexts x = Check.of(grammar, word);
        check.due("ways of " + word + " in " + grammar, x.ways(), ways);
        String got = Check.kept(x);
        check.holds("kept of " + word + " in " + grammar + " is " + kept + ", not " + got, got.equals(kept));
    }

    private static void ways() {
        ways("A=abc", "abc", 1, "222");
        ways("A=abc", "abd", 1, "220");
        ways("A=ab", "abb", 2, "211");
        ways("A=ab", "aab", 2, "112");
        ways("A=aa", "aaaa", 6, "1111");
        ways("A=aaaa", "aa", 6, "22");
        ways("A=aaa", "aaaaaa", 20, "111111");
        ways("A=b", "aa", 2, "00");
        ways("A=_", "abcd", 1, "0000");
        ways("A=_", "", 1, "");
        ways("A=abcd", "", 1, "");
        ways("A=ba", "ab", 3, "11");
        MendTexts x = Check.of("A=ab", "abb");
        check.due("kept, asked first", x.kept(2), 1);
        check.due("kept of the first", x.kept(0), 2);
        Check.word(x, "ba");
        check.due("kept, asked first", x.kept(0), 1);
        x = Check.of("A=BBB;B=aaaa", "bbbbbb");
        x.cost(2, 2);
        check.due("all rows cost the same", x.mend(0, 0, 6), 18);
        check.due("all rows of six and twelve", x.ways(), 369305);
        check.holds("none is kept", Check.kept(x).equals("000000"));
        x = Check.of("A=BBB;B=aaaa", "aaaaaa");
        check.due("six of twelve", x.ways(), 924);
        check.holds("all are kept", Check.kept(x).equals("222222"));
        x = Check.of("A=b", "a");
        check.due("a change", x.ways(), 1);
        x.cost(2, 2);
        check.due("a change, DROP and PUT, PUT and DROP", x.ways(), 3);
        x.cost(2, 3);
        check.due("DROP and PUT, PUT and DROP", x.ways(), 2);
        x.cost(0, 2);
        check.due("a change, DROP and PUT, PUT and DROP", x.ways(), 3);
        check.due("no letter is kept", x.kept(0), 0);
        check.due("no such letter", x.kept(1), Check.OUTSIDE);
        check.due("no such letter", x.kept(Integer.MAX_VALUE), Check.OUTSIDE);
        check.due("no such letter", x.kept(Integer.MIN_VALUE), Check.OUTSIDE);
    }
}
