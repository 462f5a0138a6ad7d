/** Promise 9: one test for each sentence that names an edge. */
public final class HitEdgeTest {
    private static final Check CHECK = new Check();

    public static void main(String[] args) {
        notLessThanThePlace();
        lessThanPlaceAndSize();
        frameWithPaddingWithoutMargin();
        emptyFrames();
        farPoints();
        greatestLevel();
        lowestLevels();
        lastOfEqualLevels();
        parentsBeforeWhatIsInside();
        childrenWithAllInsideThem();
        childrenMadeLater();
        outsideOfTheParent();
        ofRowsAndCells();
        none();
        notLaidOut();
        CHECK.end();
    }

    private static Sheet sheet(String sentence) {
        return new Sheet(CHECK, sentence);
    }

    private static void notLessThanThePlace() {
        Sheet s = sheet("x and y not less than the place");
        s.change(0, "left -7 top 9 width 5 height 4");
        s.page.layout(0, 0);
        s.hit(-7, 9, 0);
        s.hit(-8, 9, -1);
        s.hit(-7, 8, -1);
    }

    private static void lessThanPlaceAndSize() {
        Sheet s = sheet("and less than that and the size");
        s.change(0, "left -7 top 9 width 5 height 4");
        s.page.layout(0, 0);
        s.hit(-3, 12, 0);
        s.hit(-2, 12, -1);
        s.hit(-3, 13, -1);
    }

    private static void frameWithPaddingWithoutMargin() {
        Sheet s = sheet("The topmost box whose frame has the point");
        s.change(0, "margin 3 padding 2 width 1 height 1");
        s.page.layout(0, 0);
        s.hit(3, 3, 0);
        s.hit(7, 7, 0);
        s.hit(2, 3, -1);
        s.hit(3, 2, -1);
        s.hit(8, 7, -1);
        s.hit(7, 8, -1);
    }

    private static void emptyFrames() {
        Sheet s = sheet("less than that and the size");
        s.change(0, "width 0 height 5");
        s.page.layout(0, 0);
        s.hit(0, 0, -1);
        s.change(0, "width 5 height 0");
        s.page.layout(0, 0);
        s.hit(0, 0, -1);
        s.change(0, "width 1 height 1");
        s.page.layout(0, 0);
        s.hit(0, 0, 0);
        s.make(0, "block level 9 height 0");
        s.page.layout(0, 0);
        s.hit(0, 0, 0);
    }

    private static void farPoints() {
        Sheet s = sheet("hit: any x and y, NONE if there is none");
        s.change(0, "width 2000 height 2000 left 500 top -500");
        s.page.layout(0, 0);
        int[] far = {Integer.MAX_VALUE, Integer.MIN_VALUE, Integer.MAX_VALUE - 1000, Integer.MIN_VALUE + 1000};
        for (int value : far) {
            s.hit(value, 0, -1);
            s.hit(600, value, -1);
            s.hit(value, value, -1);
        }
        s.hit(2499, 1499, 0);
    }

    private static void greatestLevel() {
        Sheet s = sheet("of all such those with the greatest LEVEL");
        s.change(0, "height 20");
        int high = s.make(0, "block free 1 width 9 height 9 level 9");
        int low = s.make(0, "block free 1 width 9 height 9 level 8");
        int inLow = s.make(low, "block height 9 level 8");
        s.page.layout(20, 20);
        s.hit(1, 1, high);
        s.change(inLow, "level 9");
        s.page.layout(20, 20);
        s.hit(1, 1, inLow);
        s.change(inLow, "level -9");
        s.change(low, "level 9");
        s.page.layout(20, 20);
        s.hit(1, 1, low);
        s.change(0, "level 9");
        s.page.layout(20, 20);
        s.hit(1, 1, low);
        s.hit(15, 15, 0);
    }

    private static void lowestLevels() {
        Sheet s = sheet("LEVEL -9 .. 9: of all such those with the greatest LEVEL");
        s.change(0, "height 20 level -9");
        int child = s.make(0, "block height 9 level -9");
        s.page.layout(20, 20);
        s.hit(1, 1, child);
        s.hit(1, 10, 0);
        s.change(0, "level -8");
        s.page.layout(20, 20);
        s.hit(1, 1, 0);
    }

    private static void lastOfEqualLevels() {
        Sheet s = sheet("and of these the last one in the order");
        int first = s.make(0, "block free 1 width 9 height 9 level 3");
        int second = s.make(0, "block free 1 width 9 height 5 level 3");
        int third = s.make(0, "block free 1 width 9 height 2 level 3");
        s.make(0, "block free 1 width 9 height 9 level 2");
        s.page.layout(20, 20);
        s.hit(0, 1, third);
        s.hit(0, 2, second);
        s.hit(0, 5, first);
    }

    private static void parentsBeforeWhatIsInside() {
        Sheet s = sheet("the order in which a box stands before all that is inside it");
        for (int depth = 1; depth <= 9; depth++) {
            s.make(depth - 1, "block height " + (10 - depth));
        }
        s.page.layout(20, 20);
        for (int depth = 1; depth <= 9; depth++) {
            s.hit(3, 9 - depth, depth);
        }
    }

    private static void childrenWithAllInsideThem() {
        Sheet s = sheet("and children with all inside them in their order");
        int elder = s.make(0, "block free 1 width 9 height 9");
        int younger = s.make(0, "block free 1 width 5 height 5");
        int inElder = s.make(elder, "block width 9 height 9");
        int deep = s.make(inElder, "block width 9 height 9");
        s.page.layout(20, 20);
        s.hit(1, 1, younger);
        s.hit(6, 6, deep);
        s.change(deep, "level 1");
        s.page.layout(20, 20);
        s.hit(1, 1, deep);
    }

    private static void childrenMadeLater() {
        Sheet s = sheet("children with all inside them in their order");
        int first = s.make(0, "block free 1 width 9 height 9");
        int last = s.make(0, "block free 1 width 9 height 9");
        int inLast = s.make(last, "block width 9 height 9");
        s.make(first, "block width 9 height 9");
        s.page.layout(20, 20);
        s.hit(1, 1, inLast);
        int newest = s.make(last, "block free 1 width 9 height 9");
        s.page.layout(20, 20);
        s.hit(1, 1, newest);
    }

    private static void outsideOfTheParent() {
        Sheet s = sheet("The topmost box whose frame has the point, wherever its parent's is");
        int moved = s.make(0, "block height 5 left -30 top -40");
        int wide = s.make(0, "block height 5 width 90");
        s.page.layout(20, 5);
        s.hit(-30, -40, moved);
        s.hit(-11, -36, moved);
        s.hit(-10, -36, -1);
        s.hit(89, 9, wide);
        s.hit(90, 9, -1);
        s.hit(3, 3, 0);
    }

    private static void ofRowsAndCells() {
        Sheet s = sheet("The topmost box whose frame has the point (ROWS and CELLS too)");
        int table = s.make(0, "table");
        int row = s.make(table, "block margin 9 padding 9");
        int cell = s.make(row, "block height 10 words 1 letters 5 margin 9");
        int low = s.make(row, "block height 4 words 1 letters 5");
        s.page.layout(20, 0);
        s.hit(4, 9, cell);
        s.hit(5, 3, low);
        s.hit(5, 4, row);
        s.hit(10, 9, table);
        s.change(row, "level 1");
        s.page.layout(20, 0);
        s.hit(4, 9, row);
    }

    private static void none() {
        Sheet s = sheet("NONE if there is none.");
        s.page.layout(100, 100);
        s.same("NONE", PageLayouter.NONE, -1);
        s.hit(0, 0, PageLayouter.NONE);
        s.hit(50, 50, PageLayouter.NONE);
        s.laidOut(true);
    }

    private static void notLaidOut() {
        Sheet s = sheet("IllegalStateException if it is not laid out.");
        s.refused("hit before layout", Sheet.NO_STATE, () -> s.page.hit(0, 0));
        s.page.layout(10, 10);
        s.hit(0, 0, -1);
        s.change(0, "height 3");
        s.refused("hit after set", Sheet.NO_STATE, () -> s.page.hit(0, 0));
        s.page.layout(10, 10);
        s.hit(0, 0, 0);
        s.make(0, "block");
        s.refused("hit after box", Sheet.NO_STATE, () -> s.page.hit(0, 0));
    }
}
