/** Promise 9: hit. */
public final class HitTest {
    private static final Check CHECK = new Check();

    public static void main(String[] args) {
        needsALayout();
        hasTheUpperLeftEdgesAlone();
        takesTheLastInTheTree();
        takesTheGreatestLevel();
        findsBoxesOutsideTheirParents();
        findsRows();
        CHECK.end();
    }

    private static void needsALayout() {
        PageLayouter page = new PageLayouter();
        CHECK.fails("not laid out", IllegalStateException.class, () -> page.hit(0, 0));
        page.layout(10, 10);
        CHECK.same("a frame without height", page.hit(0, 0), PageLayouter.NONE);
        page.set(0, Props.HEIGHT, 1);
        CHECK.fails("no longer laid out", IllegalStateException.class, () -> page.hit(0, 0));
    }

    private static void hasTheUpperLeftEdgesAlone() {
        PageLayouter page = new PageLayouter();
        Props.change(page, 0, Props.MARGIN, 3, Props.PADDING, 2, Props.HEIGHT, 6);
        page.layout(20, 0);
        int[][] inside = {{3, 3}, {16, 12}, {3, 12}, {16, 3}};
        for (int[] point : inside) {
            CHECK.same("hit", page.hit(point[0], point[1]), 0);
        }
        int[][] outside = {{2, 3}, {3, 2}, {17, 12}, {16, 13}, {Integer.MAX_VALUE, 5}, {Integer.MIN_VALUE, 5},
            {5, Integer.MAX_VALUE}, {5, Integer.MIN_VALUE}};
        for (int[] point : outside) {
            CHECK.same("hit", page.hit(point[0], point[1]), PageLayouter.NONE);
        }
    }

    private static void takesTheLastInTheTree() {
        PageLayouter page = new PageLayouter();
        int early = Props.make(page, 0, 0, Props.FREE, 1, Props.WIDTH, 10, Props.HEIGHT, 10);
        int late = Props.make(page, 0, 0, Props.FREE, 1, Props.WIDTH, 10, Props.HEIGHT, 10);
        int inEarly = Props.make(page, early, 0, Props.HEIGHT, 10, Props.WIDTH, 20);
        page.layout(50, 50);
        CHECK.same("hit of an elder sibling's child", page.hit(5, 5), late);
        CHECK.same("hit beside", page.hit(15, 5), inEarly);
        int inLate = Props.make(page, late, 0, Props.HEIGHT, 4);
        page.layout(50, 50);
        CHECK.same("hit of a child", page.hit(5, 3), inLate);
        CHECK.same("hit below it", page.hit(5, 4), late);
    }

    private static void takesTheGreatestLevel() {
        PageLayouter page = new PageLayouter();
        page.set(0, Props.HEIGHT, 40);
        int child = Props.make(page, 0, 0, Props.HEIGHT, 10);
        int inner = Props.make(page, child, 0, Props.HEIGHT, 10);
        page.set(child, Props.LEVEL, 9);
        page.layout(10, 0);
        CHECK.same("hit", page.hit(0, 0), child);
        page.set(inner, Props.LEVEL, 9);
        page.layout(10, 0);
        CHECK.same("hit", page.hit(0, 0), inner);
        Props.change(page, child, Props.LEVEL, -9);
        Props.change(page, inner, Props.LEVEL, -9);
        page.layout(10, 0);
        CHECK.same("hit", page.hit(0, 0), 0);
        page.set(0, Props.LEVEL, -9);
        page.layout(10, 0);
        CHECK.same("hit", page.hit(0, 0), inner);
    }

    private static void findsBoxesOutsideTheirParents() {
        PageLayouter page = new PageLayouter();
        int moved = Props.make(page, 0, 0, Props.HEIGHT, 10, Props.LEFT, -30, Props.TOP, -40);
        page.layout(20, 0);
        CHECK.same("hit", page.hit(-30, -40), moved);
        CHECK.same("hit", page.hit(-11, -31), moved);
        CHECK.same("hit", page.hit(-10, -31), PageLayouter.NONE);
        CHECK.same("hit", page.hit(5, 5), 0);
    }

    private static void findsRows() {
        PageLayouter page = new PageLayouter();
        int table = page.box(0, Props.TABLE);
        int row = page.box(table, 0);
        int cell = Props.make(page, row, 0, Props.HEIGHT, 10, Props.WORDS, 1, Props.LETTERS, 5);
        int low = Props.make(page, row, 0, Props.HEIGHT, 4, Props.WORDS, 1, Props.LETTERS, 5);
        page.layout(20, 0);
        CHECK.same("hit", page.hit(4, 9), cell);
        CHECK.same("hit", page.hit(5, 3), low);
        CHECK.same("hit below a low cell", page.hit(5, 4), row);
        CHECK.same("hit beside the row", page.hit(10, 0), table);
    }
}
