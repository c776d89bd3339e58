import com.sun.management.ThreadMXBean;
import java.lang.management.ManagementFactory;

/** What an object and its calls take of the one room of a run (LANGUAGE.md, rule 12). */
public final class RoomTest {
    private static final long OBJECT_BYTES = 100000;
    private static final long CALLS_BYTES = 100000;

    public static void main(String[] args) {
        // Once for the classes to be loaded, so that only the calls are counted.
        play(new SkyMargins());
        ThreadMXBean threads = (ThreadMXBean) ManagementFactory.getThreadMXBean();
        long start = threads.getCurrentThreadAllocatedBytes();
        SkyMargins x = new SkyMargins();
        long made = threads.getCurrentThreadAllocatedBytes();
        int calls = play(x);
        long played = threads.getCurrentThreadAllocatedBytes();
        System.out.println("made with " + (made - start) + " bytes, " + calls + " calls with " + (played - made));
        if (made - start > OBJECT_BYTES || played - made > CALLS_BYTES) {
            System.exit(1);
        }
    }

    private static int play(SkyMargins x) {
        int calls = 0;
        for (int copy = 0; copy < 12; copy++) {
            x.copy(copy % 8, copy);
            x.hand(0, 400);
            x.form(copy, copy % 6, 99);
            x.sample(copy % 8, copy % 6, 99);
            x.stay(copy, 0, 0, 400);
            calls += 5;
        }
        x.image(0);
        calls++;
        for (int round = 0; round < 27; round++) {
            for (int note = 0; note < 4; note++) {
                x.note(round % 12, round * 2, note, note, 0);
            }
            // "late" and blanks.
            x.feed(0x6C617465, 0x20202020, 0x20202020, 0x20202020, 0x20202020);
            x.text();
            x.tree();
            x.sure(3);
            x.net(2, 3);
            x.joins(1);
            x.written(0);
            x.read(0, 3);
            x.late(0, -1);
            x.censor(0, 0, 1);
            x.run(round);
            x.image(1);
            calls += 16;
            if (round % 8 == 7) {
                x.back(0);
                calls++;
            }
        }
        return calls;
    }
}
