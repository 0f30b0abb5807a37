import com.sun.management.ThreadMXBean;
import java.lang.management.ManagementFactory;

/** What the dearest runs of 512 calls make, in bytes; the room holds 7.3 million elements for a whole run. */
public final class RoomTest {
    /** Some 2 million ints: well within the room, whatever else a run does. */
    private static final long MOST_BYTES = 8_000_000L;
    private static final Check CHECK = new Check();
    private static final ThreadMXBean THREADS = (ThreadMXBean) ManagementFactory.getThreadMXBean();

    private RoomTest() {
    }

    public static void main(String[] args) {
        CHECK.about("the room");
        int[] warm = new int[3];
        for (int round = 0; round < 2; round++) {
            long before = THREADS.getCurrentThreadAllocatedBytes();
            warm[0] = ruleAndClear();
            long afterRules = THREADS.getCurrentThreadAllocatedBytes();
            warm[1] = growAgain();
            long afterGrowing = THREADS.getCurrentThreadAllocatedBytes();
            warm[2] = ask();
            long afterAsking = THREADS.getCurrentThreadAllocatedBytes();
            CHECK.due("rules that come and go fit", afterRules - before < MOST_BYTES, true);
            CHECK.due("trees that come and go fit", afterGrowing - afterRules < MOST_BYTES, true);
            CHECK.due("questions fit", afterAsking - afterGrowing < MOST_BYTES, true);
        }
        CHECK.due("rules came and went", warm[0], -2);
        CHECK.due("trees came and went", warm[1], 4001);
        CHECK.due("questions were answered", warm[2], 0);
        CHECK.end();
    }

    private static int ruleAndClear() {
        RuleTree x = new RuleTree();
        int big = Make.recordOf(x, 101, 101, Make.recordOf(x, 98, 98, x.constant(0, 5)));
        int last = 0;
        for (int i = 0; i < 75; i++) {
            x.clear();
            x.rule(big);
            last = x.grow();
            x.fits(big);
        }
        return last;
    }

    private static int growAgain() {
        RuleTree x = new RuleTree();
        int big = Make.recordOf(x, 100, 100, Make.recordOf(x, 20, 20, x.constant(0, 5)));
        x.rule(big);
        int last = 0;
        for (int i = 0; i < 90; i++) {
            x.rule(x.count(3) == 1 ? big : x.record(100));
            last = x.grow();
        }
        return last;
    }

    private static int ask() {
        RuleTree x = new RuleTree();
        int big = Make.recordOf(x, 100, 100, Make.recordOf(x, 20, 20, x.constant(0, 5)));
        x.rule(big);
        x.grow();
        int last = 0;
        for (int i = 0; i < 75; i++) {
            last = x.run(big) + x.first(big) + x.ends(i) * 0 + x.missing(0x0101, 0) * 0;
            x.looks(big);
        }
        return last;
    }
}
