import java.lang.management.ManagementFactory;

/** All calls of a run share one room: what an object makes behind its constructor must stay small. */
public final class RoomTest {
    private static final Check CHECK = new Check("RoomTest");

    public static void main(String[] args) {
        useAll(new MarkCabinet());
        MarkCabinet cabinet = new MarkCabinet();
        long before = allocated();
        int calls = useAll(cabinet);
        long bytes = allocated() - before;
        System.out.println("RoomTest: " + bytes + " bytes made by " + calls + " calls");
        CHECK.due("the run is as long as the document lets it be", 512, calls);
        CHECK.holds("512 calls make less than 24 prints' worth and some", bytes < 16_000);
        CHECK.end();
    }

    private static long allocated() {
        return ((com.sun.management.ThreadMXBean) ManagementFactory.getThreadMXBean())
            .getThreadAllocatedBytes(Thread.currentThread().getId());
    }

    /** Fills the cabinet with prints of twelve POINTS and makes its dearest calls. */
    private static int useAll(MarkCabinet c) {
        int calls = 0;
        for (int y = 0; y < 16; y += 3) {
            c.feed(y, 0xA4A4 >> y % 4);
            calls++;
        }
        for (int k = 0; k < 24; k++) {
            c.feed(15, 1 << k % 16);
            c.print(Draw.WHOLE);
            c.keep(k % 3, k, k);
            calls += 3;
        }
        for (int k = 0; calls <= 512 - 11; k++) {
            c.reach(k % 4);
            c.strangers(k, 0);
            c.like(k % 24);
            c.flaws(k % 3);
            c.flaw(k % 3, 0, 1);
            c.age(k % 24, (k + 1) % 3);
            c.match(k % 24, 23 - k % 24);
            c.pieces(k % 2);
            c.thin();
            c.print(-1);
            c.print(Draw.WHOLE);
            calls += 11;
        }
        for (; calls < 512; calls++) {
            CHECK.due("a last call", 24, c.count(0));
        }
        return calls;
    }
}
