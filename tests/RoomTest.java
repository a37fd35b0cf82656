import com.sun.management.ThreadMXBean;
import java.lang.management.ManagementFactory;

/** The dearest calls, 512 of each, leave the room that all calls of one run share as good as empty. */
public final class RoomTest {
    private interface Call {
        long on(EngagedByDeputy x, int i);
    }

    /** Bytes that may be made in 512 calls; a call that made one small row would make more. */
    private static final long MOST_BYTES = 512 * 24;
    private static final Due DUE = new Due();
    private static final ThreadMXBean BEAN = (ThreadMXBean) ManagementFactory.getThreadMXBean();

    private static EngagedByDeputy full() {
        EngagedByDeputy x = Rows.told("m11;m32;m43;m54;m05;w05;w26;w37;w48;w59;d001;d012;d102;d124;c00;c11;c02;c23;s70;");
        for (int i = 0; i < 100; i++) {
            if (i == 0) {
                x.row(1, 1, 100);
            }
            x.put(1, i, Integer.MIN_VALUE);
        }
        Rows.numbers(x, 2, 2, 0, 1, 2, 3, 4);
        x.image();
        return x;
    }

    private static void made(String name, Call call) {
        long least = Long.MAX_VALUE;
        // of several measurements the least, since the machine makes objects of its own at times
        for (int round = 0; round < 5; round++) {
            EngagedByDeputy x = full();
            long before = BEAN.getThreadAllocatedBytes(Thread.currentThread().getId());
            for (int i = 0; i < 512; i++) {
                call.on(x, i);
            }
            least = Math.min(least, BEAN.getThreadAllocatedBytes(Thread.currentThread().getId()) - before);
        }
        DUE.holds("512 calls of " + name + " made " + least + " bytes", least <= MOST_BYTES);
    }

    public static void main(String[] args) {
        made("fate", (x, i) -> x.fate(i % 4, 60, 2));
        made("orders", (x, i) -> x.orders(i % 2));
        made("deputies", (x, i) -> x.deputies(i % 4, 0));
        made("bestWho", (x, i) -> x.bestWho(i % 6));
        made("soonest", (x, i) -> x.soonest());
        made("leave", (x, i) -> x.leave(2));
        made("stable", (x, i) -> x.stable(i % 5));
        made("allStable", (x, i) -> x.allStable());
        made("mostOf", (x, i) -> x.mostOf(i % 5));
        made("said", (x, i) -> x.said(0, 0, i, 0));
        made("learnt", (x, i) -> x.learnt(1, 0));
        made("ways", (x, i) -> x.ways(-1));
        made("thaw", (x, i) -> x.thaw(i % 4, 60, 9, -1));
        made("judge", (x, i) -> x.judge(0, 0, 0, 1));
        made("seeds", (x, i) -> x.seeds(20, i, 0));
        made("valley", (x, i) -> x.valley(0));
        made("days", (x, i) -> x.days(60));
        made("restore", (x, i) -> x.restore() + x.image());
        made("row", (x, i) -> x.row(i % 8, 2, 100));
        made("keep", (x, i) -> x.keep(i % 8, 1, 4, 9) + x.comes(i % 8, 1));
        DUE.end();
    }
}
