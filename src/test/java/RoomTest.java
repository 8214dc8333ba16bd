import com.sun.management.ThreadMXBean;
import java.lang.management.ManagementFactory;

/** What a run of calls makes: all of one run stays in one room, so the calls themselves make next to nothing. */
public final class RoomTest {
    private static final int OBJECTS = 10;
    /** Of each of nine calls; with those that fill the sheet an object is used for fewer than 512. */
    private static final int ROUNDS = 50;
    /** Some bytes for what the machine makes for itself while it warms up. */
    private static final long MOST_BYTES = 100_000;
    private static final long MOST_BYTES_OF_ONE = 20_000;

    private static int wrong;
    private static final ThreadMXBean BEAN = (ThreadMXBean) ManagementFactory.getThreadMXBean();

    public static void main(String[] args) {
        run(filled());
        LatticeGrader[] objects = filled();
        long before = made();
        LatticeGrader fresh = new LatticeGrader();
        long one = made() - before;
        before = made();
        long sum = run(objects) + fresh.count(0);
        long all = made() - before;
        int calls = OBJECTS * ROUNDS * 9;
        due(one, MOST_BYTES_OF_ONE, "a new object");
        due(all, MOST_BYTES, calls + " calls");
        System.out.println("a new object makes " + one + " bytes, " + calls + " calls " + all + " (" + sum + ")");
        if (wrong != 0) {
            System.exit(1);
        }
    }

    private static long made() {
        return BEAN.getThreadAllocatedBytes(Thread.currentThread().getId());
    }

    private static void due(long bytes, long most, String what) {
        if (bytes > most) {
            wrong++;
            System.out.println(what + " makes " + bytes + " bytes, at most are due " + most);
        }
    }

    /** Sheets where each RULE is broken. */
    private static LatticeGrader[] filled() {
        LatticeGrader[] objects = new LatticeGrader[OBJECTS];
        for (int o = 0; o < OBJECTS; o++) {
            LatticeGrader x = new LatticeGrader();
            for (int p = 0; p < 7; p++) {
                x.paper(90 - 11 * p);
                x.kind(p, p % 6, p);
                x.heavy(p, 9 - p);
            }
            for (int p = 0; p < 6; p++) {
                x.rule(p, p + 1);
                x.rule(p, 6);
            }
            x.limit(40);
            x.shelf(0, 20);
            objects[o] = x;
        }
        return objects;
    }

    /** The dearest calls. */
    private static long run(LatticeGrader[] objects) {
        long sum = 0;
        for (int o = 0; o < OBJECTS; o++) {
            LatticeGrader x = objects[o];
            for (int i = 0; i < ROUNDS; i++) {
                int loss = (o + i) % 3;
                sum += x.likely(loss, i % 7, 20, 0) + x.needs(loss, i % 7, 1) + x.dearest(loss) + x.lots(20, i, 1);
                sum += x.says(i % 7, -1) + x.line(i % 2, i % 7, 0) + x.lays(loss, 0, 0) + x.pairs(1) + x.image();
            }
        }
        return sum;
    }
}
