import java.lang.management.ManagementFactory;

/** All calls of a run live in one room: the dearest calls make nothing, and a TEXT makes little. */
public final class RoomTest {
    private static final int CALLS = 512;

    public static void main(String[] args) {
        OneStroke x = new OneStroke();
        x.deal(10);
        x.order(4);
        x.keep();
        Tapes.law(x, "hear l+r>n");
        Tapes.law(x, "start s+n-b");
        x.sheet(0, 1, 24);
        think(x);
        long ahead = made();
        for (int k = 0; k < 40; k++) {
            think(x);
        }
        little("thoughts make nothing", made() - ahead, 1024);
        ahead = made();
        for (int k = 0; k < CALLS; k++) {
            x = new OneStroke();
        }
        little("an object is small", made() - ahead, CALLS * 8192L);
        String longest = "fine " + "1+".repeat(45) + "1";
        ahead = made();
        for (int k = 0; k < CALLS; k++) {
            Tapes.law(x, longest);
        }
        little("TEXTS are small", made() - ahead, CALLS * 1024L);
        Due.end("RoomTest");
    }

    private static void think(OneStroke x) {
        x.mend(40, 0);
        x.miscounted(0, 60, 0);
        x.toWhom(60);
        x.spread(100);
        x.soon();
        x.all();
        x.behind(0, 100, 0);
        x.reads(0, 0);
        x.beats(1);
        x.check(30);
        x.back();
        x.keep();
        x.lay(0, 1, 0);
        x.lay(0, 2, 0);
        x.copy(0, 0, 0, 1, 23);
        x.pour(0);
        x.fine();
    }

    private static void little(String what, long bytes, long most) {
        Due.due(what + ": " + bytes + " bytes of " + most, bytes <= most);
    }

    private static long made() {
        com.sun.management.ThreadMXBean threads = (com.sun.management.ThreadMXBean) ManagementFactory.getThreadMXBean();
        return threads.getThreadAllocatedBytes(Thread.currentThread().getId());
    }
}
