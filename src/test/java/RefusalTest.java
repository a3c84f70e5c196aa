import java.util.List;
import java.util.Random;

/**
 * That refused calls change nothing, that calls which only ask change nothing,
 * and that no call throws, whatever it is told.
 */
final class RefusalTest {
    private static final Check check = new Check();
    private static final int[] ODD = {Integer.MIN_VALUE, Integer.MIN_VALUE + 1, -1000, -7, -2, -1, 0, 1, 2, 3, 4, 5,
        6, 7, 8, 9, 10, 11, 12, 13, 15, 16, 59, 60, 61, 127, 1 << 16, 1 << 30, Integer.MAX_VALUE - 1,
        Integer.MAX_VALUE};

    public static void main(String[] args) {
        refusals();
        for (int seed = 1; seed <= 60; seed++) {
            anything(seed);
        }
        check.end("RefusalTest");
    }

    private static MendTexts full() {
        MendTexts x = Check.of("B=aAb|C;A=BB|c|_", "");
        x.cost(0, 2);
        Check.examples(x, "abc", "cab", "dd");
        Check.word(x, "aacb");
        for (int i = 0; i < 60; i++) {
            x.say('e');
        }
        return x;
    }

    /** The calls that could change something, refused. */
    private static int refused(MendTexts x, int which) {
        switch (which) {
            case 0: return x.say(32);
            case 1: return x.say('a');
            case 2: return x.grammar();
            case 3: return x.word();
            case 4: return x.cost(0, 10);
            case 5: return x.cost(3, 5);
            case 6: return x.example();
            case 7: return x.mend(0, 3, 2);
            case 8: return x.mend(2, 0, 1);
            case 9: return x.more(2, 4);
            case 10: return x.more(9, 0);
            case 11: return x.kept(4);
            case 12: return x.near(0, 3);
            case 13: return x.rule(1, 2, 0);
            default: return x.told(8);
        }
    }

    private static void refusals() {
        int[] due = {Check.OUTSIDE, Check.FULL, Check.NO, Check.NO, Check.OUTSIDE, Check.OUTSIDE, Check.FULL,
            Check.OUTSIDE, Check.NO, Check.OUTSIDE, Check.UNKNOWN, Check.OUTSIDE, Check.UNKNOWN, Check.UNKNOWN,
            Check.OUTSIDE};
        List<Integer> before = Check.everything(full());
        for (int which = 0; which < due.length; which++) {
            MendTexts x = full();
            check.due("refusal " + which, refused(x, which), due[which]);
            check.holds("refusal " + which + " changes nothing", Check.everything(x).equals(before));
            check.due("refusal " + which + ", asked again", refused(x, which), due[which]);
            check.due("the pad is as it was " + which, x.wipe(), 60);
        }
    }

    private static void anything(int seed) {
        Random chance = new Random(seed);
        MendTexts x = new MendTexts();
        String signs = "AAABCDEF==;||_abcdabcd";
        for (int i = 0; i < 700; i++) {
            if (chance.nextInt(12) == 0) {
                Check.grammar(x, grammar(chance));
            } else if (chance.nextInt(3) == 0) {
                x.say(signs.charAt(chance.nextInt(signs.length())));
            }
            List<Integer> before = i % 100 == 0 ? Check.everything(x) : List.of();
            boolean same = ask(x, chance.nextInt(19), odd(chance), odd(chance), odd(chance));
            if (i % 100 == 0 && same) {
                check.holds("seed " + seed + ": a call that asks changes nothing",
                        Check.everything(x).equals(before));
            }
        }
        check.holds("seed " + seed + " went on to its end", x.told(5) >= 1);
    }

    private static int odd(Random chance) {
        return ODD[chance.nextBoolean() ? 3 + chance.nextInt(10) : chance.nextInt(ODD.length)];
    }

    private static String grammar(Random chance) {
        StringBuilder signs = new StringBuilder();
        String[] rules = {"_", "a", "bAc", "AB", "CCC", "DEFA", "F", "dd", "BaBa", "BBBB", "CCCC", "DDDD", "EEEE",
            "FFFF", "AAAA"};
        for (char name = 'A'; name <= 'F' && (name == 'A' || chance.nextInt(4) > 0); name++) {
            signs.append(name == 'A' ? "" : ";").append(name).append('=').append(rules[chance.nextInt(rules.length)]);
            for (int i = chance.nextInt(4); i > 0; i--) {
                signs.append('|').append(rules[chance.nextInt(rules.length)]);
            }
        }
        return signs.substring(0, Math.min(signs.length(), 60));
    }

    /** Whether the call only asks. */
    private static boolean ask(MendTexts x, int which, int a, int b, int c) {
        switch (which) {
            case 0: x.say(a); return false;
            case 1: x.wipe(); return false;
            case 2: x.grammar(); return false;
            case 3: x.word(); return false;
            case 4: x.cost(a, b); return false;
            case 5: x.example(); return false;
            case 6: x.forget(); return false;
            case 7: x.fault(); return true;
            case 8: x.rule(a, b, c); return true;
            case 9: x.least(a, b); return true;
            case 10: x.nothing(); return true;
            case 11: x.is(a); return true;
            case 12: x.first(a); return true;
            case 13: x.mend(a, b, c); return true;
            case 14: x.text(a); return true;
            case 15: x.kept(a); return true;
            case 16: x.near(a, b); return true;
            case 17: x.total(); return true;
            default: x.more(a, b); return true;
        }
    }
}
