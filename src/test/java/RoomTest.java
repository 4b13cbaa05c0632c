import java.lang.management.ManagementFactory;

/** All calls of one run live in one room: behind the constructor no call may make an object or an array. */
public final class RoomTest {
    private static final Check check = new Check("RoomTest");

    public static void main(String[] args) {
        com.sun.management.ThreadMXBean threads = (com.sun.management.ThreadMXBean) ManagementFactory.getThreadMXBean();
        everyCall(2);
        long before = threads.getThreadAllocatedBytes(Thread.currentThread().getId());
        long none = threads.getThreadAllocatedBytes(Thread.currentThread().getId()) - before;
        LinkChances x = fullest();
        before = threads.getThreadAllocatedBytes(Thread.currentThread().getId());
        for (int i = 0; i < 400; i++) call(x, i);
        long made = threads.getThreadAllocatedBytes(Thread.currentThread().getId()) - before - none;
        check.due("a call makes no object: bytes made by 400 calls, in thousands", made / 1000, 0);
        before = threads.getThreadAllocatedBytes(Thread.currentThread().getId());
        new LinkChances();
        made = threads.getThreadAllocatedBytes(Thread.currentThread().getId()) - before - none;
        check.due("an object takes less than 5000 longs: " + made + " bytes", made < 40000 ? 1 : 0, 1);
        check.end();
    }

    private static void everyCall(int times) {
        for (int i = 0; i < times; i++) {
            LinkChances x = fullest();
            for (int act = 0; act < 34; act++) call(x, act);
        }
    }

    private static LinkChances fullest() {
        LinkChances x = Check.net(7, Check.l(0, 1, 1, 2), Check.l(1, 2, 2, 3), Check.l(2, 3, 3, 4), Check.l(3, 4, 4, 5), Check.l(4, 5, 5, 6),
            Check.l(5, 6, 6, 7), Check.l(6, 0, 7, 8), Check.l(0, 3, 8, 9), Check.l(1, 4, 1, 9), Check.l(2, 5, 2, 9));
        x.goals(127);
        Check.fill(x, 0, new int[40]);
        Check.tell(x, "all;up1;free1;none;all");
        return x;
    }

    private static long call(LinkChances x, int act) {
        switch (act % 33) {
            case 0: return x.back() + x.link(2, 5, 2, 9);
            case 1: return x.chance(3, 1, 7);
            case 2: return x.see(3, 0);
            case 3: return x.source(3);
            case 4: return x.goals(127);
            case 5: return x.info(3, 3);
            case 6: return x.reach(0);
            case 7: return x.joined(0);
            case 8: return x.wide(5);
            case 9: return x.widest();
            case 10: return x.pair(0, 6, 0);
            case 11: return x.rule(0);
            case 12: return x.sets(6);
            case 13: return x.like(9, 10, 0);
            case 14: return x.least(0);
            case 15: return x.worth(3, 0);
            case 16: return x.worthiest();
            case 17: return x.better(3, 1, 9, 1);
            case 18: return x.type('a');
            case 19: return x.wipe();
            case 20: return x.obey();
            case 21: return x.wrong();
            case 22: return x.sheet(1, 40);
            case 23: return x.lay(1, 39, 5);
            case 24: return x.get(1, 39);
            case 25: return x.copy(1, 0, 0, 0, 40);
            case 26: return x.read(0);
            case 27: return x.write(0);
            case 28: return x.lose(1);
            case 29: return x.count(6);
            case 30: return x.least(1);
            case 31: return x.like(79, 79, 0);
            default: return x.digest();
        }
    }
}
