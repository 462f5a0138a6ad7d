import com.sun.management.ThreadMXBean;
import java.lang.management.ManagementFactory;

/** What a run makes: only new objects and new boxes take room, the other calls none. */
public final class RoomTest {
    private static final int ROUNDS = 2000;
    private static final int LEAST_BYTES_OF_AN_OBJECT = 16;

    private int answers;

    public static void main(String[] args) {
        Check check = new Check();
        RoomTest test = new RoomTest();
        PageLayouter page = fullPage();
        test.callAll(page);
        long before = bytesMade();
        test.callAll(page);
        long made = bytesMade() - before;
        check.yes("bytes made by " + ROUNDS + " rounds: " + made, made < (long) ROUNDS * LEAST_BYTES_OF_AN_OBJECT);
        check.yes("the calls answered", test.answers != 0);
        check.end();
    }

    private static long bytesMade() {
        return ((ThreadMXBean) ManagementFactory.getThreadMXBean()).getCurrentThreadAllocatedBytes();
    }

    /** All 40 boxes, with a table, a flex that shrinks and one that grows, and free boxes. */
    private static PageLayouter fullPage() {
        PageLayouter page = new PageLayouter();
        int table = page.box(0, Props.TABLE);
        for (int i = 0; i < 4; i++) {
            int row = page.box(table, Props.BLOCK);
            for (int k = 0; k < 4; k++) {
                Props.make(page, row, Props.BLOCK, Props.WORDS, 5 + k, Props.LETTERS, 3 + i);
            }
        }
        int shrinking = page.box(0, Props.FLEX);
        int growing = page.box(0, Props.FLEX);
        while (page.boxes() < 40) {
            Props.make(page, shrinking, Props.BLOCK, Props.WORDS, page.boxes(), Props.LETTERS, 4);
            if (page.boxes() < 39) {
                Props.make(page, growing, Props.BLOCK, Props.GROW, 1);
                Props.make(page, growing, Props.BLOCK, Props.FREE, 1, Props.WIDTH, Props.PERCENT + 50);
            }
        }
        return page;
    }

    private void callAll(PageLayouter page) {
        for (int round = 0; round < ROUNDS; round++) {
            answers += page.set(2, Props.FREE, round % 2);
            answers += page.layout(100 + round % 50, 100);
            for (int box = 0; box < page.boxes(); box++) {
                answers += page.least(box) + page.most(box) + page.frame(box, 2);
            }
            answers += page.hit(5, 5) + page.column(1, 0) + (page.laidOut() ? 1 : 0);
        }
    }
}
