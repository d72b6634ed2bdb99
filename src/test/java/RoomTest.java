import java.lang.management.ManagementFactory;

/** All calls of a run live in one room, so no call that answers may make anything: only new objects and throws do. */
public final class RoomTest {
    private static final int CALLS = 500;
    // What measuring itself may make; the dearest calls would make far more if they made a thing for each way tried.
    private static final long MOST_BYTES = 4096;

    public static void main(String[] args) {
        com.sun.management.ThreadMXBean counter =
                (com.sun.management.ThreadMXBean) ManagementFactory.getThreadMXBean();
        long worst = 0;
        for (int round = 0; round < 3; round++) {
            MeshLodger lodger = crowded();
            long before = counter.getThreadAllocatedBytes(Thread.currentThread().getId());
            int sum = 0;
            for (int call = 0; call < CALLS / 10; call++) {
                sum += dearCalls(lodger, call);
            }
            long made = counter.getThreadAllocatedBytes(Thread.currentThread().getId()) - before;
            worst = round == 0 ? sum & 0 : Math.max(worst, made);
        }
        boolean few = worst <= MOST_BYTES;
        System.out.println(few ? "calls make nothing" : "dear calls made " + worst + " bytes");
        System.exit(few ? 0 : 1);
    }

    private static MeshLodger crowded() {
        MeshLodger lodger = new MeshLodger();
        for (int node = 0; node < 6; node++) {
            lodger.node(60);
        }
        for (int link = 0; link < 9; link++) {
            lodger.link(link < 6 ? link : link - 6, link < 6 ? (link + 1) % 6 : link - 3, 20);
        }
        for (int request = 0; request < 8; request++) {
            draft(lodger, 5, 4);
            lodger.place(request % 3, 100);
            lodger.clear();
        }
        return lodger;
    }

    private static void draft(MeshLodger lodger, int room, int need) {
        lodger.part(room, 63);
        lodger.part(room, 63);
        lodger.part(room, 63);
        lodger.line(0, 1, need);
        lodger.line(1, 2, need);
        lodger.line(2, 0, need);
    }

    private static int dearCalls(MeshLodger lodger, int call) {
        lodger.fail(call % 9, call % 2 == 0);
        draft(lodger, 9, 11);
        int sum = lodger.least() + lodger.leastAnew() + lodger.freeing();
        sum += lodger.told(0, 7) + lodger.load(0, 1) + lodger.ofLink(0, 1);
        return sum + lodger.clear();
    }
}
