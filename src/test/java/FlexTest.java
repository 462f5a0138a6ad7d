/** Promises 6 and 7: layout and frame, of flexes. */
public final class FlexTest {
    private static final Check CHECK = new Check();

    public static void main(String[] args) {
        standsSideBySide();
        growsByParts();
        keepsBasesWithoutGrow();
        shrinksByWeight();
        shrinksNoLowerThanTheLesserCore();
        keepsABasisBelowTheCore();
        closesRoundByRound();
        takesTheRestFromThoseAboveTheirCore();
        endsWhenNoneIsOpen();
        countsWithoutWrappingAround();
        stretchesHeights();
        leavesTheInsideUnstretched();
        placesFreeChildren();
        CHECK.end();
    }

    private static void widths(PageLayouter page, int first, int... due) {
        for (int i = 0; i < due.length; i++) {
            CHECK.same("width of box " + (first + i), page.frame(first + i, 2), due[i]);
        }
    }

    private static int flexOf(PageLayouter page, int width) {
        return Props.make(page, 0, Props.FLEX, Props.WIDTH, width);
    }

    private static void standsSideBySide() {
        PageLayouter page = new PageLayouter();
        int flex = Props.make(page, 0, Props.FLEX, Props.PADDING, 4, Props.MARGIN, 1);
        int a = Props.make(page, flex, 0, Props.WIDTH, 10, Props.HEIGHT, 5, Props.MARGIN, 3);
        int b = Props.make(page, flex, 0, Props.WIDTH, Props.PERCENT + 25, Props.HEIGHT, 8, Props.PADDING, 2);
        int c = Props.make(page, flex, 0, Props.WORDS, 2, Props.LETTERS, 3, Props.LEFT, 2, Props.TOP, -1);
        CHECK.same("layout", page.layout(111, 0), 22);
        CHECK.frame(page, flex, 1, 1, 109, 20);
        CHECK.frame(page, a, 8, 8, 10, 5);
        CHECK.frame(page, b, 21, 5, 29, 12);
        CHECK.frame(page, c, 52, 4, 7, 12);
    }

    private static void growsByParts() {
        PageLayouter page = new PageLayouter();
        int flex = flexOf(page, 100);
        for (int grow : new int[] {2, 0, 3, 2}) {
            Props.make(page, flex, 0, Props.WIDTH, 10, Props.GROW, grow, Props.MARGIN, 1);
        }
        page.layout(0, 0);
        widths(page, 2, 10 + 14 + 1, 10, 10 + 22 + 1, 10 + 14);
        CHECK.same("x of the last", page.frame(5, 0), 75);
        page.set(flex, Props.WIDTH, 48);
        page.layout(0, 0);
        widths(page, 2, 10, 10, 10, 10);
        page.set(flex, Props.WIDTH, 50);
        page.layout(0, 0);
        widths(page, 2, 11, 10, 11, 10);
    }

    private static void keepsBasesWithoutGrow() {
        PageLayouter page = new PageLayouter();
        int flex = flexOf(page, 100);
        Props.make(page, flex, 0, Props.WORDS, 3, Props.LETTERS, 5);
        Props.make(page, flex, 0, Props.WIDTH, Props.PERCENT + 0);
        Props.make(page, flex, 0, Props.WIDTH, 4);
        Props.make(page, flex, 0, Props.WIDTH, 50, Props.GROW, 5, Props.FREE, 1);
        page.layout(0, 0);
        widths(page, 2, 17, 0, 4, 50);
    }

    private static void shrinksByWeight() {
        PageLayouter page = new PageLayouter();
        int flex = flexOf(page, 90);
        Props.make(page, flex, 0, Props.WIDTH, 30, Props.SHRINK, 1);
        Props.make(page, flex, 0, Props.WIDTH, 40, Props.SHRINK, 2);
        Props.make(page, flex, 0, Props.WIDTH, 50, Props.SHRINK, 0, Props.PADDING, 5);
        page.layout(0, 0);
        widths(page, 2, 30 - 10 - 1, 40 - 29, 60);
        page.set(flex, Props.WIDTH, 130);
        page.layout(0, 0);
        widths(page, 2, 30, 40, 60);
        page.set(flex, Props.WIDTH, 10);
        page.layout(0, 0);
        widths(page, 2, 0, 0, 60);
    }

    private static void shrinksNoLowerThanTheLesserCore() {
        PageLayouter page = new PageLayouter();
        int flex = flexOf(page, 30);
        Props.make(page, flex, 0, Props.WIDTH, 40, Props.WORDS, 1, Props.LETTERS, 18);
        Props.make(page, flex, 0, Props.WIDTH, 40);
        page.layout(0, 0);
        widths(page, 2, 18, 12);
        page.set(flex, Props.WIDTH, 36);
        page.layout(0, 0);
        widths(page, 2, 18, 18);
        page.set(flex, Props.WIDTH, 35);
        page.layout(0, 0);
        widths(page, 2, 18, 17);
    }

    private static void keepsABasisBelowTheCore() {
        PageLayouter page = new PageLayouter();
        int flex = flexOf(page, 30);
        Props.make(page, flex, 0, Props.WIDTH, 10, Props.WORDS, 1, Props.LETTERS, 18);
        Props.make(page, flex, 0, Props.WIDTH, 40);
        page.layout(0, 0);
        widths(page, 2, 10, 20);
    }

    private static void closesRoundByRound() {
        PageLayouter page = new PageLayouter();
        int flex = flexOf(page, 60);
        Props.make(page, flex, 0, Props.WIDTH, 40, Props.WORDS, 2, Props.LETTERS, 20, Props.SHRINK, 9);
        int inner = Props.make(page, flex, 0, Props.WIDTH, 40, Props.SHRINK, 2);
        Props.make(page, flex, 0, Props.WIDTH, 40);
        Props.make(page, inner, 0, Props.WIDTH, 15);
        page.layout(0, 0);
        widths(page, 2, 20, 15, 25);
    }

    private static void takesTheRestFromThoseAboveTheirCore() {
        PageLayouter page = new PageLayouter();
        int flex = flexOf(page, 28);
        int a = Props.make(page, flex, 0, Props.WIDTH, 10, Props.WORDS, 1, Props.LETTERS, 10, Props.SHRINK, 1);
        int b = Props.make(page, flex, 0, Props.WIDTH, 10, Props.SHRINK, 1);
        int c = Props.make(page, flex, 0, Props.WIDTH, 10, Props.SHRINK, 1);
        page.layout(0, 0);
        widths(page, a, 10, 9, 9);
        Props.change(page, b, Props.WORDS, 1, Props.LETTERS, 10);
        Props.change(page, c, Props.WORDS, 1, Props.LETTERS, 10);
        page.layout(0, 0);
        widths(page, a, 10, 10, 10);
        page.set(c, Props.LETTERS, 9);
        page.layout(0, 0);
        widths(page, a, 10, 10, 9);
    }

    private static void endsWhenNoneIsOpen() {
        PageLayouter page = new PageLayouter();
        int flex = flexOf(page, 5);
        Props.make(page, flex, 0, Props.WIDTH, 0, Props.MARGIN, 50);
        Props.make(page, flex, 0, Props.WIDTH, 30, Props.SHRINK, 0);
        Props.make(page, flex, 0, Props.WIDTH, 7, Props.MARGIN, 50);
        page.layout(0, 0);
        widths(page, 2, 0, 30, 0);
        CHECK.same("x of the last", page.frame(4, 0), 180);
    }

    private static void countsWithoutWrappingAround() {
        PageLayouter page = new PageLayouter();
        int outer = flexOf(page, 1000);
        int inner = Props.make(page, outer, Props.FLEX, Props.SHRINK, 9);
        for (int i = 0; i < 37; i++) {
            Props.make(page, inner, 0, Props.WORDS, 50, Props.LETTERS, 20, Props.SHRINK, 9);
        }
        page.layout(0, 0);
        CHECK.same("width of the inner flex", page.frame(inner, 2), 1000);
        for (int i = 0; i < 37; i++) {
            CHECK.same("width of one of 37", page.frame(3 + i, 2), i < 36 ? 27 : 28);
        }
    }

    private static void stretchesHeights() {
        PageLayouter page = new PageLayouter();
        int flex = page.box(0, Props.FLEX);
        int a = Props.make(page, flex, 0, Props.WIDTH, 10, Props.HEIGHT, 30, Props.MARGIN, 2, Props.PADDING, 1);
        int b = Props.make(page, flex, 0, Props.WIDTH, 10, Props.MARGIN, 4, Props.PADDING, 5);
        int c = Props.make(page, flex, 0, Props.WIDTH, 10, Props.HEIGHT, Props.PERCENT + 50, Props.WORDS, 1);
        CHECK.same("layout", page.layout(200, 100), 36);
        CHECK.same("height", page.frame(a, 3), 32);
        CHECK.same("height", page.frame(b, 3), 28);
        CHECK.same("height of a percent of nothing", page.frame(c, 3), 10);
        page.set(flex, Props.HEIGHT, 12);
        CHECK.same("layout", page.layout(200, 100), 12);
        CHECK.same("height", page.frame(a, 3), 32);
        CHECK.same("height", page.frame(b, 3), 10);
        CHECK.same("height", page.frame(c, 3), 6);
    }

    private static void leavesTheInsideUnstretched() {
        PageLayouter page = new PageLayouter();
        int flex = Props.make(page, 0, Props.FLEX, Props.HEIGHT, 90);
        int inner = page.box(flex, Props.FLEX);
        int low = Props.make(page, inner, 0, Props.WORDS, 1);
        int part = Props.make(page, inner, 0, Props.HEIGHT, Props.PERCENT + 100);
        int free = Props.make(page, flex, 0, Props.FREE, 1, Props.WORDS, 1);
        page.layout(100, 100);
        CHECK.same("height of the inner flex", page.frame(inner, 3), 90);
        CHECK.same("height inside it", page.frame(low, 3), 10);
        CHECK.same("height of a percent inside it", page.frame(part, 3), 0);
        CHECK.same("height of a free one", page.frame(free, 3), 10);
    }

    private static void placesFreeChildren() {
        PageLayouter page = new PageLayouter();
        int flex = Props.make(page, 0, Props.FLEX, Props.PADDING, 3);
        Props.make(page, flex, 0, Props.WIDTH, 10, Props.HEIGHT, 10);
        int free = Props.make(page, flex, 0, Props.FREE, 1, Props.MARGIN, 2, Props.WIDTH, Props.PERCENT + 50);
        int last = Props.make(page, flex, 0, Props.WIDTH, 10);
        page.layout(106, 0);
        CHECK.frame(page, free, 5, 5, 50, 0);
        CHECK.frame(page, last, 13, 3, 10, 10);
    }
}
