import java.lang.management.ManagementFactory;

/** All calls of a run live in one room: an object makes its rows when it is made, and no call makes any more. */
public final class RoomTest {
    private static final int NONE = -6;
    private static final long MOST_FOR_AN_OBJECT = 200_000;
    // Some bytes for what asking itself takes.
    private static final long MOST_FOR_CALLS = 2_000;
    private static final int CALLS = 512;

    public static void main(String[] args) {
        Check check = new Check();
        run(new ProxyVotes());
        long start = allocated();
        ProxyVotes x = new ProxyVotes();
        long made = allocated();
        run(x);
        long end = allocated();
        check.that("an object takes " + (made - start) + " bytes", made - start <= MOST_FOR_AN_OBJECT);
        check.that("the calls take " + (end - made) + " bytes", end - made <= MOST_FOR_CALLS);
        check.end();
    }

    private static long allocated() {
        com.sun.management.ThreadMXBean threads = (com.sun.management.ThreadMXBean) ManagementFactory.getThreadMXBean();
        return threads.getThreadAllocatedBytes(Thread.currentThread().getId());
    }

    private static void run(ProxyVotes x) {
        for (int i = 0; i < 12; i++) {
            x.member(1 + i % 9, i % 4);
            x.item(i % 3, i % 2 == 0 ? 0 : i);
        }
        for (int i = 0; i < 6; i++) {
            x.come(i);
            x.proxy(6 + i, NONE, i % 2 == 0 ? i : 6 + (i + 1) % 6);
            x.later(10 + i, i, i % 2);
        }
        x.open(0);
        for (int call = 0; call < CALLS; call++) {
            x.vote(call % 6, call % 3);
            x.decisive(0);
            x.needed(0, 0);
            x.power(call % 12);
            x.quorumAt(call % 12);
            x.bestHolder(6 + call % 6, call % 12);
            x.at(call % 12, call % 12, call % 7);
            x.ofItem(call % 12, call % 12);
            x.ofMember(call % 12, call % 6);
            x.count(call % 22);
            x.put(0x2b413b2d413b6dL);
            x.put('1');
            x.fault();
            x.carryOut();
            x.wipe();
            x.save(call % 2);
            x.undo();
            x.restore(call % 2);
            x.set(0, call % 101);
            x.tell(call % 12, call % 12, call % 3);
            x.recuse(call % 12, call % 12, call % 2);
            x.close();
            x.cast(1);
            x.open(call % 12);
            x.chair(call % 12);
            x.pass(call % 3);
            x.go(call % 6);
        }
    }
}
