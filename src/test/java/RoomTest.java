import com.sun.management.ThreadMXBean;
import java.lang.management.ManagementFactory;

/** A whole run of the dearest calls stays below the room of 600,000 objects and 7.3 million elements. */
public final class RoomTest {
    // As much as 7.3 million elements of four bytes take.
    private static final long MOST_BYTES = 4 * 7_300_000;

    private RoomTest() {
    }

    public static void main(String[] args) {
        if (!(ManagementFactory.getThreadMXBean() instanceof ThreadMXBean bean)
                || !bean.isThreadAllocatedMemorySupported()) {
            System.out.println("this machine does not count what is made");
            return;
        }
        run(0, 1);
        for (int kind = 0; kind < 5; kind++) {
            long before = bean.getCurrentThreadAllocatedBytes();
            run(kind, 470);
            long made = bean.getCurrentThreadAllocatedBytes() - before;
            System.out.println("kind " + kind + " made " + made + " bytes");
            Due.is("room of kind " + kind, made < MOST_BYTES, true);
        }
        Due.end();
    }

    private static void run(int kind, int calls) {
        Crosshatch x = anagrams();
        int slots = x.ofGrid(4);
        for (int k = 0; k < calls; k++) {
            switch (kind) {
                case 0 -> x.digest();
                case 1 -> x.rearranged(k % 30);
                case 2 -> x.fillings();
                case 3 -> x.block(k % 25, k % 2 == 0);
                default -> x.clue(k % slots);
            }
        }
    }

    private static Crosshatch anagrams() {
        Crosshatch made = new Crosshatch();
        made.grid(5, 5);
        int words = 0;
        for (int k = 0; k < 3125 && words < 30; k++) {
            int[] letters = {k % 5, k / 5 % 5, k / 25 % 5, k / 125 % 5, k / 625};
            // Words of two letters a and three letters b, c, d: all of them rearrange each other.
            int[] times = new int[5];
            boolean isKnown = true;
            for (int letter : letters) {
                times[letter]++;
                isKnown &= letter < 4;
            }
            if (isKnown && times[0] == 2 && times[1] == 1 && times[2] == 1 && times[3] == 1) {
                made.word(letters[0], letters[1], letters[2], letters[3], letters[4], 1);
                words++;
            }
        }
        return made;
    }
}
