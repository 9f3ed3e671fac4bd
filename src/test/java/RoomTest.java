import java.lang.management.ManagementFactory;

/**
 * The room that a run takes: what the machine counts as allotted bytes for new objects and for
 * calls. A run's room is some 600,000 objects and 7.3 million elements; an object of the class
 * takes some 17,000 elements, and its calls make nothing but the exception of deed.
 */
final class RoomTest {
    private static final long OBJECT_BYTES = 250000;
    private static final int NONE = OathYesterday.NONE;

    private RoomTest() {
    }

    static void run() {
        com.sun.management.ThreadMXBean bean =
                (com.sun.management.ThreadMXBean) ManagementFactory.getThreadMXBean();
        long id = Thread.currentThread().getId();
        bean.getThreadAllocatedBytes(id);
        long ahead = bean.getThreadAllocatedBytes(id);
        OathYesterday x = new OathYesterday();
        long made = bean.getThreadAllocatedBytes(id) - ahead;
        Check.due("bytes of an object are " + made, made < OBJECT_BYTES, true);
        Check.land(x, "t6;e;e;e;e;e");
        Check.oath(x, "a<b|!(c&d)|#1");
        Check.oath(x, "#0&e3");
        for (int i = 0; i < 10; i++) {
            x.swear(i % 6, i % 2, 3 + i % 4, 7 * i);
        }
        askAll(x);
        long before = bean.getThreadAllocatedBytes(id);
        for (int i = 0; i < 10; i++) {
            askAll(x);
        }
        long taken = bean.getThreadAllocatedBytes(id) - before;
        Check.due("bytes of 450 calls are " + taken, taken < 20000, true);
    }

    private static void askAll(OathYesterday x) {
        x.feed(0x61266231, 0, 0, 0, 0);
        x.fault(0);
        x.fault(1);
        x.end(0);
        x.fact(0, 3, false);
        x.weigh(1, 2, 3);
        x.stake(1, 4);
        x.lives(true, NONE);
        x.lives(false, 77);
        x.holds(0, 3, 12345);
        x.when(2);
        x.breaks();
        x.clash();
        x.may(4);
        x.most(4, 1);
        x.hinders(4);
        x.must(4);
        x.care(0, 5, 1);
        x.perjured(2);
        x.guilt(3);
        x.blame(1);
        x.worth(1, 2, 3, true);
        x.odds(1, 4, 0);
        x.question(0);
        x.settled(0, 3);
        x.rings(12345, NONE);
        x.fall(1);
        x.duel(4, 5, NONE);
        x.bait(4, 5);
        x.plan(1, 5, 1);
        x.implies(0, 1, 4);
        x.same(0, 4);
        x.days(1);
        x.near(54321, 1);
        x.alibi(0, 1);
        x.hands();
        x.mean(0);
        x.likeliest();
        x.drawn(99L);
        x.busy(1);
        x.rows(0, 1, 0);
        x.image();
        x.undo();
        x.back();
        x.undo();
        x.count(3);
    }
}
