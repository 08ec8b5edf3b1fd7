import com.sun.management.ThreadMXBean;
import java.lang.management.ManagementFactory;

/** All calls of a run live in one room: the dearest calls make nothing, an object little. */
public final class RoomTest {
    private static final ThreadMXBean ROOM = (ThreadMXBean) ManagementFactory.getThreadMXBean();
    private static final String LAND = "wide 40 40;house 19 19 20 20;house 5 5 7 7;house 30 30 33 33;river 10 0 11 9";

    public static void main(String[] args) {
        long object = 0;
        for (int i = 0; i < 3; i++) {
            long before = bytes();
            new RoundAnothers();
            object = bytes() - before;
        }
        RoundAnothers it = Check.object(LAND, "far 1;join 1");
        Check.wish(it, "want worth - long");
        it.years(0, 20);
        it.image(0);
        it.back(0);
        long calls = 0;
        for (int i = 0; i < 3; i++) {
            long before = bytes();
            dear(it);
            calls = bytes() - before;
        }
        System.out.println("an object takes " + object + " bytes, the dearest calls " + calls);
        System.exit(object <= 150000 && calls == 0 ? 0 : 1);
    }

    private static long bytes() {
        return ROOM.getCurrentThreadAllocatedBytes();
    }

    private static void dear(RoundAnothers it) {
        for (int k = 0; k < 6; k++) {
            it.errand(k, k, 0, k, 31, 31);
        }
        it.best(0, 0, 0, 0, -1, 4, 0);
        it.ahead(0, 0, 0, 1, 2, 2, 0);
        it.least(0, 0, 2, -1, 5);
        it.most(0, 0, 2);
        it.where(6, 0);
        it.gains(6);
        it.sum(0);
        it.way(0, 0, 0, 39, 39, 2);
        it.after(0, 60, 0);
        it.image(0);
        it.years(0, 1);
        it.back(0);
        it.nests(3);
        it.thing(6, 8);
        // A text that has a fault leaves nothing behind.
        it.feed(0x66617220, 0x31203120, 0, 0, 0);
        it.text(0);
        it.feed(0x66617220, 0x31203120, 0, 0, 0);
        it.land();
    }
}
