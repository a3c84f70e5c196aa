import java.lang.management.ManagementFactory;

/** That calls make nothing: all rows are made in the constructor, and those are few. */
final class RoomTest {
    private static final Check check = new Check();
    private static final MendTexts[] made = new MendTexts[100];

    public static void main(String[] args) {
        useAll(new MendTexts());
        long before = bytes();
        for (int i = 0; i < made.length; i++) {
            made[i] = new MendTexts();
        }
        long each = (bytes() - before) / made.length;
        check.holds("an object takes some 30 KB, not " + each, each < 32 * 1024);
        before = bytes();
        for (MendTexts x : made) {
            useAll(x);
        }
        long rest = bytes() - before;
        check.holds("calls make nothing: " + rest + " bytes", rest < 16 * 1024);
        check.end("RoomTest");
    }

    private static long bytes() {
        com.sun.management.ThreadMXBean threads =
                (com.sun.management.ThreadMXBean) ManagementFactory.getThreadMXBean();
        return threads.getThreadAllocatedBytes(Thread.currentThread().getId());
    }

    private static void say(MendTexts x, String signs) {
        for (int i = 0; i < signs.length(); i++) {
            x.say(signs.charAt(i));
        }
    }

    private static void useAll(MendTexts x) {
        say(x, "A=aAb|BC|_;B=c|AA;C=dB|d");
        x.fault();
        x.grammar();
        for (int i = 0; i < 3; i++) {
            say(x, "abcdab");
            x.word();
            x.example();
        }
        for (int name = 0; name < 6; name++) {
            x.rule(name, 0, 0);
            x.least(name, 0);
            x.is(name);
            x.first(name);
            x.mend(name, 0, 6);
            x.more(name, 0);
        }
        x.nothing();
        x.cost(0, 3);
        x.text(0);
        x.ways();
        x.kept(0);
        x.near(0, 1);
        x.total();
        x.told(0);
        x.forget();
        x.wipe();
    }
}
