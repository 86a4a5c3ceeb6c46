import java.lang.management.ManagementFactory;

/** All calls of a run live in one room: an object takes its rows when it is made, and its calls take none. */
public final class RoomTest {
    private static final long MOST_MADE = 200000;
    private static final long MOST_CALLED = 4000;

    public static void main(String[] args) {
        com.sun.management.ThreadMXBean beans = (com.sun.management.ThreadMXBean) ManagementFactory.getThreadMXBean();
        long thread = Thread.currentThread().getId();
        BuoyVote warm = new BuoyVote();
        calls(warm);
        beans.getThreadAllocatedBytes(thread);
        long before = beans.getThreadAllocatedBytes(thread);
        BuoyVote vote = new BuoyVote();
        long made = beans.getThreadAllocatedBytes(thread) - before;
        Checks.tape(vote, "bx1;bx2;bx3;bx4;bx5;bx6;bx7;bx8;c;c;c");
        vote.text(0);
        before = beans.getThreadAllocatedBytes(thread);
        calls(vote);
        long called = beans.getThreadAllocatedBytes(thread) - before;
        System.out.println("bytes of a new object: " + made + ", of its calls: " + called);
        if (made > MOST_MADE || called > MOST_CALLED) {
            System.exit(1);
        }
    }

    private static void calls(BuoyVote vote) {
        for (int i = 0; i < 10; i++) {
            vote.feed(0x623B633B, 0x63000000, 0, 0, 0);
            vote.fault(i % 3);
            vote.hours(60);
            vote.years(60, i);
            vote.undo();
            vote.round(0, 255, 0);
            vote.best(0, 0);
            vote.rests(0, 1, -1);
            vote.holds(0, 1, 0);
            vote.seen(0, i, i, 2);
            vote.likes(0, -1);
            vote.ask(0);
            vote.fog(0, 50);
            vote.washed(1, 1, -1);
            vote.watch(3);
            vote.fair(60, 0);
            vote.ahead(0, 60);
            vote.needs(0, 0);
            vote.middle();
            vote.image();
            vote.back();
            vote.count(7);
        }
    }
}
