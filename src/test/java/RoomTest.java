import com.sun.management.ThreadMXBean;
import java.lang.management.ManagementFactory;

/** All calls of one run live in one room: calls make no objects, and a new object is small. */
public final class RoomTest {
    private static final int ROUNDS = 2000;
    private static final String TEXT = "sa;sa;sae;p0,a;p1,e;m0;m1;w0,aaaaaaaa;w1,aeae;w2,a;w3,e;k1;";

    private static final Check check = new Check();
    private static final ThreadMXBean threads = (ThreadMXBean) ManagementFactory.getThreadMXBean();

    public static void main(String[] args) {
        RebusSigns x = new RebusSigns();
        long answers = round(x);
        long before = threads.getCurrentThreadAllocatedBytes();
        for (int i = 0; i < ROUNDS; i++) {
            check.holds("each round answers alike", round(x) == answers);
        }
        long bytes = threads.getCurrentThreadAllocatedBytes() - before;
        // The check above joins no texts, so that a few bytes a round are all that the machine itself may need.
        check.holds("calls make no objects: " + bytes + " bytes", bytes < ROUNDS * 8L);

        before = threads.getCurrentThreadAllocatedBytes();
        new RebusSigns();
        bytes = threads.getCurrentThreadAllocatedBytes() - before;
        check.holds("a new object is small: " + bytes + " bytes", bytes < 20000);
        check.finish();
    }

    private static long round(RebusSigns x) {
        long all = x.wipe() * 0;
        for (int i = 0; i < TEXT.length(); i++) {
            all += x.write(TEXT.charAt(i));
        }
        all = all * 31 + x.fault();
        all = all * 31 + x.lay();
        for (int i = 0; i < 17; i++) {
            all = all * 31 + x.carve(i % 7);
        }
        all = all * 31 + x.chip() + x.strike(1, 1) + x.law(0) + x.law(1) + x.undo();
        for (int k = -2; k < 11; k++) {
            all = all * 31 + x.count(k) + x.reading(k) + x.cut(k) + x.carved(k) + x.read(k, 3) + x.readings();
            for (int of = 0; of < 6; of++) {
                all = all * 31 + x.sign(of, k) + x.word(of, k) + x.least(of, k) + x.mark(of) + x.writings(of);
            }
        }
        return all;
    }
}
