/** The document's "WIDTHS" but for flexes and tables: one test for each sentence that names an edge. */
public final class WidthEdgeTest {
    private static final Check CHECK = new Check();

    public static void main(String[] args) {
        boxZeroOfASize();
        boxZeroInPercent();
        boxZeroAuto();
        inBlockOfASize();
        inBlockInPercent();
        inBlockAuto();
        freeAutoUpToLeast();
        freeAutoDownToMost();
        freeAutoBetween();
        freeAutoWithoutWords();
        freeAutoWithMarginAndPadding();
        freeOfASize();
        freeInPercent();
        freeInEveryParent();
        CHECK.end();
    }

    private static Sheet sheet(String sentence) {
        return new Sheet(CHECK, sentence);
    }

    /** Rows of a page's width and the frame's width that is due there. */
    private static void widthsByPage(Sheet s, int box, int[][] rows) {
        for (int[] row : rows) {
            s.page.layout(row[0], 0);
            s.width(box, row[1]);
        }
    }

    private static void boxZeroOfASize() {
        Sheet s = sheet("Box 0 ..: a size: that");
        s.change(0, "width 2000 margin 3 words 1 letters 20");
        widthsByPage(s, 0, new int[][] {{0, 2000}, {5000, 2000}});
        s.change(0, "width 0");
        widthsByPage(s, 0, new int[][] {{0, 0}, {5000, 0}});
    }

    private static void boxZeroInPercent() {
        Sheet s = sheet("for box 0 the page's .. p percent: W * p / 100");
        s.change(0, "width 50% margin 3");
        widthsByPage(s, 0, new int[][] {{0, 0}, {1, 0}, {2, 1}, {4999, 2499}, {5000, 2500}});
        s.change(0, "width 0%");
        widthsByPage(s, 0, new int[][] {{5000, 0}});
        s.change(0, "width 100%");
        widthsByPage(s, 0, new int[][] {{0, 0}, {5000, 5000}});
    }

    private static void boxZeroAuto() {
        Sheet s = sheet("AUTO: what is left of W without its margins and paddings, but not below 0");
        s.change(0, "margin 10 padding 5 words 1 letters 20");
        widthsByPage(s, 0, new int[][] {{0, 10}, {29, 10}, {30, 10}, {31, 11}, {5000, 4980}});
        s.change(0, "margin 0 padding 0");
        widthsByPage(s, 0, new int[][] {{0, 0}, {1, 1}, {5000, 5000}});
    }

    private static void inBlockOfASize() {
        Sheet s = sheet("those in flow of a BLOCK ..: a size: that");
        int child = s.make(0, "block width 2000 margin 100");
        widthsByPage(s, child, new int[][] {{0, 2000}, {5000, 2000}});
        s.change(child, "width 0 words 1 letters 20");
        widthsByPage(s, child, new int[][] {{0, 0}, {5000, 0}});
    }

    private static void inBlockInPercent() {
        Sheet s = sheet("in a parent of width W ..: p percent: W * p / 100");
        s.change(0, "padding 10");
        int child = s.make(0, "block width 33% margin 100");
        widthsByPage(s, child, new int[][] {{0, 0}, {23, 0}, {24, 1}, {120, 33}, {5000, 1643}});
        s.change(child, "width 100%");
        widthsByPage(s, child, new int[][] {{20, 0}, {120, 100}});
        s.change(child, "width 0%");
        widthsByPage(s, child, new int[][] {{120, 0}});
    }

    private static void inBlockAuto() {
        Sheet s = sheet("AUTO: what is left of W without its margins and paddings, but not below 0");
        s.change(0, "padding 10");
        int child = s.make(0, "block margin 2 padding 1 words 1 letters 20");
        widthsByPage(s, child, new int[][] {{0, 2}, {25, 2}, {26, 2}, {27, 3}, {5000, 4976}});
        int inner = s.make(child, "block margin 100 padding 100");
        widthsByPage(s, inner, new int[][] {{0, 200}, {426, 200}, {427, 201}});
    }

    private static void freeAutoUpToLeast() {
        Sheet s = sheet("for a FREE one that is made greater to LEAST");
        int free = s.make(0, "block free 1 words 4 letters 5");
        widthsByPage(s, free, new int[][] {{0, 5}, {4, 5}, {5, 5}, {6, 6}});
        s.make(free, "block width 40");
        widthsByPage(s, free, new int[][] {{0, 40}, {39, 40}, {40, 40}});
    }

    private static void freeAutoDownToMost() {
        Sheet s = sheet("and then smaller to MOST, if it is not so");
        int free = s.make(0, "block free 1 words 4 letters 5");
        widthsByPage(s, free, new int[][] {{22, 22}, {23, 23}, {24, 23}, {5000, 23}});
        s.make(free, "block width 40");
        widthsByPage(s, free, new int[][] {{41, 40}, {5000, 40}});
    }

    private static void freeAutoBetween() {
        Sheet s = sheet("AUTO: what is left of W, for a FREE one too if it is between LEAST and MOST");
        int free = s.make(0, "flex free 1");
        s.make(free, "block words 4 letters 5");
        s.make(free, "block words 4 letters 5");
        widthsByPage(s, free, new int[][] {{9, 10}, {10, 10}, {11, 11}, {45, 45}, {46, 46}, {47, 46}});
    }

    private static void freeAutoWithoutWords() {
        Sheet s = sheet("for a FREE one that is made .. smaller to MOST");
        int free = s.make(0, "block free 1 letters 9");
        widthsByPage(s, free, new int[][] {{0, 0}, {9, 0}, {5000, 0}});
    }

    private static void freeAutoWithMarginAndPadding() {
        Sheet s = sheet("what is left of W without its margins and paddings, but not below 0; for a FREE one ..");
        int free = s.make(0, "block free 1 words 4 letters 5 margin 2 padding 1");
        widthsByPage(s, free, new int[][] {{0, 7}, {11, 7}, {12, 8}, {28, 24}, {29, 25}, {30, 25}});
    }

    private static void freeOfASize() {
        Sheet s = sheet("FREE boxes ..: a size: that");
        int free = s.make(0, "block free 1 words 4 letters 5 width 1");
        widthsByPage(s, free, new int[][] {{0, 1}, {5000, 1}});
        s.change(free, "width 2000");
        widthsByPage(s, free, new int[][] {{0, 2000}, {5000, 2000}});
    }

    private static void freeInPercent() {
        Sheet s = sheet("FREE boxes ..: p percent: W * p / 100");
        int free = s.make(0, "block free 1 words 4 letters 5 width 50%");
        widthsByPage(s, free, new int[][] {{0, 0}, {7, 3}, {5000, 2500}});
    }

    private static void freeInEveryParent() {
        Sheet s = sheet("(In this the W of a FREE box is its parent's width too.)");
        int block = s.make(0, "block width 40 padding 9");
        int inBlock = s.make(block, "block free 1 width 50%");
        int flex = s.make(0, "flex width 60 padding 9");
        int inFlex = s.make(flex, "block free 1 width 50% grow 9");
        int table = s.make(0, "table width 90 padding 9");
        int inTable = s.make(table, "block free 1 width 50%");
        int row = s.make(table, "block");
        int inRow = s.make(row, "block free 1 width 50%");
        int cell = s.make(row, "block words 1 letters 10 padding 2");
        int inCell = s.make(cell, "block free 1 width 50%");
        int inFree = s.make(inTable, "block free 1 width 50%");
        s.page.layout(500, 0);
        s.width(inBlock, 20);
        s.width(inFlex, 30);
        s.width(inTable, 45);
        s.width(inRow, 7);
        s.width(inCell, 5);
        s.width(inFree, 22);
        s.change(inRow, "width auto words 9 letters 4");
        s.page.layout(500, 0);
        s.width(inRow, 14);
    }
}
