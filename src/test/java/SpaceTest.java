import com.sun.management.ThreadMXBean;
import java.lang.management.ManagementFactory;

/** What a run makes: an object of 512 calls, the dearest ones, makes what its constructor makes and nothing more. */
public final class SpaceTest {
    private static final long MOST_MADE = 200_000;
    private static final long MOST_BY_CALLS = 4_000;

    public static void main(String[] args) {
        ThreadMXBean made = (ThreadMXBean) ManagementFactory.getThreadMXBean();
        run(new TrunkLitters());
        long before = made.getCurrentThreadAllocatedBytes();
        TrunkLitters x = new TrunkLitters();
        long byObject = made.getCurrentThreadAllocatedBytes() - before;
        before = made.getCurrentThreadAllocatedBytes();
        int sum = run(x);
        long byCalls = made.getCurrentThreadAllocatedBytes() - before;
        System.out.println(byObject + " bytes by an object, " + byCalls + " by its calls (" + sum + ")");
        if (byObject > MOST_MADE || byCalls > MOST_BY_CALLS) {
            System.out.println("too much is made");
            System.exit(1);
        }
    }

    private static int run(TrunkLitters x) {
        // room a holds 99;trunk b bulk 8 at a marks 1 told 9;
        x.feed(0x726f6f6d, 0x20612068, 0x6f6c6473, 0x2039393b, 0x7472756e);
        x.feed(0x6b206220, 0x62756c6b, 0x20382061, 0x74206120, 0x6d61726b);
        x.feed(0x73203120, 0x746f6c64, 0x20393b20, 0x20202020, 0x20202020);
        int sum = x.house();
        for (int i = 0; i < 10; i++) {
            sum += x.year() + x.alive(30) + x.best(0, 1) + x.law(9, 30) + x.gone(0) + x.will(0, 30, 1);
            sum += x.pack() + x.fill(0, 1) + x.span() + x.kin(0, 0) + x.rivals(0, 1) + x.sires(0, 1) + x.odd();
            sum += x.fading(30) + x.image(0) + x.back(0) + x.held(0, 0, true) + x.fits(3) + x.sure(0, 0) + x.ask(0, 0);
            sum += x.tell(0) + x.carry(0, 0) + (x.undo() ? 1 : 0) + (x.redo() ? 1 : 0) + x.about(3) + x.brood(0, 1);
            sum += x.feed(1, 2, 3, 4, 5);
        }
        return sum + x.house();
    }
}
