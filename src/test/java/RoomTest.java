import com.sun.management.ThreadMXBean;
import java.lang.management.ManagementFactory;
import java.lang.reflect.Method;
import java.lang.reflect.Modifier;

/** That no call throws, whatever it is given, and that calls make no objects once the object is made. */
public final class RoomTest {
    private static final Check check = new Check();
    private static final int[] NUMBERS = {Integer.MIN_VALUE, -1001, -1000, -999, -3, -2, -1, 0, 1, 2, 3, 5, 6, 7, 8, 10, 11,
        20, 21, 32, 40, 59, 60, 61, 99, 100, 109, 255, 256, 999, 1000, Integer.MAX_VALUE};
    private static final String[] RANKS = {"", "m 1 1;", "m 60 1; m 1 99; e 10; w 10; p 60;",
        "m 10 1;m 60 9;m 30 2;m 40 8;m 5 3;m 50 7;m 60 4;e 10;w 10;p 60;"};

    public static void main(String[] args) throws Exception {
        for (String rank : RANKS) {
            for (Method m : RankWheels.class.getDeclaredMethods()) {
                if (Modifier.isPublic(m.getModifiers())) {
                    askAll(m, rank);
                }
            }
        }
        callsMakeNothing();
        check.end("RoomTest");
    }

    private static void askAll(Method m, String rank) throws Exception {
        int parameters = m.getParameterCount();
        int combinations = 1;
        for (int i = 0; i < parameters; i++) {
            combinations *= NUMBERS.length;
        }
        RankWheels x = Check.told(rank);
        for (int c = 0; c < combinations; c++) {
            Object[] given = new Object[parameters];
            for (int i = 0, rest = c; i < parameters; i++, rest /= NUMBERS.length) {
                given[i] = NUMBERS[rest % NUMBERS.length];
            }
            m.invoke(x, given);
        }
        check.holds(m.getName() + " ends", true);
    }

    private static void dearest(RankWheels x) {
        for (int i = 0; i < 24; i++) {
            x.slips(i % 7, 3);
            x.mix(i % 2);
            x.order(i % 7);
            x.whose(i % 3);
            x.dressed();
            x.behind(i);
            x.looks(60, -1);
            x.post(i % 7, 20);
            x.odds(i % 11, i % 8, i % 2);
            x.keep(i % 2);
            x.wheels();
            x.rate(i % 6, i % 7);
            x.back(i % 2);
            x.inStep();
            x.fastest();
            x.undo();
            x.type('m');
            x.rank();
            x.clear();
            x.saw(i % 7, 60, 0);
            x.forget();
        }
    }

    private static void callsMakeNothing() {
        ThreadMXBean threads = (ThreadMXBean) ManagementFactory.getThreadMXBean();
        long self = Thread.currentThread().getId();
        dearest(Check.told(RANKS[3]));
        RankWheels x = Check.told(RANKS[3]);
        threads.getThreadAllocatedBytes(self);
        long before = threads.getThreadAllocatedBytes(self);
        dearest(x);
        long made = threads.getThreadAllocatedBytes(self) - before;
        check.holds("504 calls made " + made + " bytes", made < 4096);
        before = threads.getThreadAllocatedBytes(self);
        x = new RankWheels();
        made = threads.getThreadAllocatedBytes(self) - before;
        check.holds("a new object of " + made + " bytes", made < 16384);
    }
}
