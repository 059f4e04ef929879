import java.lang.management.ManagementFactory;

/** What a run makes: one room holds all calls, so the dearest calls may make nothing that grows with their number. */
public final class RoomTest {
    private static final com.sun.management.ThreadMXBean BEAN =
            (com.sun.management.ThreadMXBean) ManagementFactory.getThreadMXBean();
    /** Eight bytes an element: far below 7.3 million elements for a dozen objects. */
    private static final long OBJECT = 400_000;
    private static final long CALLS = 200_000;

    private static long made() {
        return BEAN.getThreadAllocatedBytes(Thread.currentThread().getId());
    }

    private static SlopeJudge high() {
        SlopeJudge x = new SlopeJudge();
        x.size(40, 10);
        for (int c = 0; c <= 40; c++) {
            x.dig(c, c < 20 ? -40 : -80);
            x.tell(c, 1, 30);
        }
        x.soil(3, 20, 20, 400);
        return x;
    }

    private static long dear(SlopeJudge x, int i) {
        long all = x.circle(200, 120, 100, i % 2 == 0);
        all += x.factor() + x.dry() + x.bears(900) + x.needs(1500) + x.pull(1500) + x.berm(0, 9, 1500);
        all += x.chance(40, 50, 1000) + x.report() + x.sign(3) + x.sum(4) + x.slice(3, 4) + x.thrust(3, 1000);
        all += x.boxes(200, 120, 100, 64, true, 0) + x.deep(10, 1, 200, 120, 100, true);
        all += x.dug(10, 1, 200, 120, 100, true) + x.scan(200, 120, 100, 5, true, 1000, 1);
        all += x.tables(12, true, 0) + x.worst(12, true);
        all += x.feed(1, 2, 3, 4, 5) + x.text() + (x.end(0) ? 1 : 0) + (x.mirror() ? 1 : 0) + x.undo();
        all += (x.image(true) ? 1 : 0) + (x.image(false) ? 1 : 0) + x.look(12);
        return all;
    }

    public static void main(String[] args) {
        made();
        high();
        long before = made();
        SlopeJudge x = new SlopeJudge();
        long object = made() - before;
        SlopeJudge y = high();
        dear(y, 0);
        before = made();
        long all = 0;
        long start = System.nanoTime();
        for (int i = 0; i < 20; i++) {
            all += dear(y, i);
        }
        long calls = made() - before;
        System.out.println("an object makes " + object + " bytes, 540 dear calls " + calls + " (" + all + ", "
                + (System.nanoTime() - start) / 1_000_000 + " ms, " + x.look(0) + ")");
        if (object > OBJECT || calls > CALLS) {
            System.out.println("that is too much");
            System.exit(1);
        }
    }
}
