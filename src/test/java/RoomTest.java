import com.sun.management.ThreadMXBean;
import java.lang.management.ManagementFactory;

/** A run has little room: the dearest calls, as often as an object is used, make next to nothing. */
public final class RoomTest {
    private static final Bench BENCH = new Bench();
    private static final ThreadMXBean METER = (ThreadMXBean) ManagementFactory.getThreadMXBean();
    private static final String FULL = "shelves 6 6;law 4;draught 6;line 1;book a 0 0 rare;book b 1 0 rare;book c 2 0 rare;"
        + "book d 3 1;book e 0 1;book f 1 1;book g 2 1;book h 5 5;thread a b 1;thread b c 2;thread c h 3;quarrel a h;";

    public static void main(String[] args) {
        for (int round = 0; round < 2; round++) {
            CobwebLibrary x = Bench.library(FULL);
            long before = METER.getCurrentThreadAllocatedBytes();
            for (int k = 0; k < 30; k++) {
                allCalls(x, k);
            }
            long used = METER.getCurrentThreadAllocatedBytes() - before;
            if (round == 1) {
                BENCH.due("500 calls made " + used + " bytes: below 4000", used < 4000, true);
            }
        }
        CobwebLibrary first = new CobwebLibrary();
        long before = METER.getCurrentThreadAllocatedBytes();
        CobwebLibrary x = new CobwebLibrary();
        long used = METER.getCurrentThreadAllocatedBytes() - before;
        BENCH.due("a new object made " + used + " bytes: below 30000", used < 30000 && x != first, true);
        BENCH.finish("RoomTest");
    }

    private static void allCalls(CobwebLibrary x, int k) {
        x.days(1, k);
        x.ask(k % 8);
        x.move(k % 8, 4, 4);
        x.broom(k % 6);
        x.undo();
        x.keep(8);
        x.turns(3);
        x.feed(0x00010203, 0, 0, 0, 0);
        x.end(2);
        x.asked(3);
        x.feed(0x00010100, 0, 0, 0, 0);
        x.end(3);
        x.spun();
        x.torn(7);
        x.way(0, 7);
        x.odds(3, 30, k);
        x.catalogue(k % 8);
        x.feed(0x64617920, 0x313b0000, 0, 0, 0);
        x.end(6);
        x.life(1);
        x.feed(0x72617265, 0, 0, 0, 0);
        x.end(4);
        x.sentence();
        x.said(-1);
        x.image(k % 2);
        x.restore(k % 2);
    }
}
