import java.lang.management.ManagementFactory;

/**
 * An object lives 512 calls in a small room: it is made once, and its dearest calls make next to nothing.
 */
public final class RoomTest {
    private static final int CALLS = 500;

    public static void main(String[] args) {
        Choicepoint warm = tellDearest();
        warm.search(1, 0);
        warm.within(10);
        long ahead = bytes();
        Choicepoint x = tellDearest();
        long made = bytes() - ahead;
        Expect.isTrue("bytes of an object, " + made + ", are below a million", made < 1000000);
        ahead = bytes();
        for (int at = 0; at < CALLS / 4; at++) {
            x.search(0, at);
            x.search(1, at);
            x.search(2, at);
            x.within(10);
        }
        long searched = bytes() - ahead;
        Expect.isTrue("bytes of searches, " + searched + ", are below 100000", searched < 100000);
        ahead = bytes();
        for (int at = 0; at < CALLS; at++) {
            x.goal(2);
        }
        long goals = bytes() - ahead;
        Expect.isTrue("bytes of goals, " + goals + ", are below a million", goals < 1000000);
        Expect.end("RoomTest");
    }

    /** A goal with many ways, and as many steps and things as may be in each. */
    private static Choicepoint tellDearest() {
        Choicepoint x = new Choicepoint();
        x.function(1, false);
        int a = x.name(0);
        int call = x.call(0, a, 0);
        int pair = x.data(4, a, call);
        int pairs = x.data(4, x.data(4, a, a), pair);
        x.rule(0, a, 0, x.data(4, pairs, x.some(a)));
        x.rule(0, a, 0, x.data(5, x.some(call), pairs));
        int goal = x.call(0, x.data(0, 0, 0), 0);
        x.goal(x.data(4, goal, x.data(2, goal, 0)));
        return x;
    }

    private static long bytes() {
        return ((com.sun.management.ThreadMXBean) ManagementFactory.getThreadMXBean())
                .getThreadAllocatedBytes(Thread.currentThread().getId());
    }
}
