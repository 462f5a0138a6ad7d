/** The document's "A TABLE of width W .." and promise 8: one test for each sentence that names an edge. */
public final class ColumnEdgeTest {
    private static final Check CHECK = new Check();

    public static void main(String[] args) {
        wideEnoughForMost();
        noWiderThanLeast();
        between();
        equalSums();
        whatIsLeft();
        whatIsLeftSkipsFullOnes();
        rowsAsWideAsAllColumns();
        cellsAsWideAsTheirColumn();
        cellsNotBelowNothing();
        freeOnesHaveNoColumn();
        withoutColumns();
        asItWasLaidOut();
        noSuchBox();
        noTable();
        notLaidOut();
        noSuchColumn();
        columnTestedLast();
        rowsBecomeTables();
        manyColumns();
        tablesApart();
        CHECK.end();
    }

    private static Sheet sheet(String sentence) {
        return new Sheet(CHECK, sentence);
    }

    /** A sheet with box 1 as a table, box 2 as its row and cells from box 3 on. */
    private static Sheet rowOf(String sentence, String... cells) {
        Sheet s = sheet(sentence);
        s.make(0, "table");
        s.make(1, "block");
        for (String cell : cells) {
            s.make(2, "block " + cell);
        }
        return s;
    }

    private static void columnsAt(Sheet s, int width, int... due) {
        s.change(1, "width " + width);
        s.page.layout(0, 0);
        s.columns(1, due);
    }

    private static void wideEnoughForMost() {
        Sheet s = rowOf("If b is W or less, each column is its MOST wide", "words 3 letters 5", "words 2 letters 4");
        columnsAt(s, 26, 17, 9);
        columnsAt(s, 27, 17, 9);
        columnsAt(s, 2000, 17, 9);
        columnsAt(s, 25, 17, 8);
    }

    private static void noWiderThanLeast() {
        Sheet s = rowOf("otherwise, if a is W or more, its LEAST", "words 3 letters 5", "words 2 letters 4");
        columnsAt(s, 9, 5, 4);
        columnsAt(s, 8, 5, 4);
        columnsAt(s, 0, 5, 4);
        columnsAt(s, 10, 6, 4);
    }

    private static void between() {
        Sheet s = rowOf("otherwise LEAST + (MOST - LEAST) * (W - a) / (b - a)", "words 5 letters 1",
                "words 9 letters 2");
        // 1 .. 9 and 2 .. 26: a quarter of what is above LEAST goes to the first
        columnsAt(s, 3, 1, 2);
        columnsAt(s, 7, 2, 5);
        columnsAt(s, 19, 5, 14);
        columnsAt(s, 31, 8, 23);
        columnsAt(s, 35, 9, 26);
    }

    private static void equalSums() {
        Sheet s = rowOf("If b is W or less ..; otherwise, if a is W or more", "words 1 letters 5", "words 1 letters 4");
        columnsAt(s, 8, 5, 4);
        columnsAt(s, 9, 5, 4);
        columnsAt(s, 10, 5, 4);
    }

    private static void whatIsLeft() {
        Sheet s = rowOf("what is left of W goes, 1 each, to the first ones", "words 4", "words 4", "words 4");
        // each 1 .. 7
        columnsAt(s, 4, 2, 1, 1);
        columnsAt(s, 5, 2, 2, 1);
        columnsAt(s, 6, 2, 2, 2);
        columnsAt(s, 20, 7, 7, 6);
        columnsAt(s, 19, 7, 6, 6);
    }

    private static void whatIsLeftSkipsFullOnes() {
        Sheet s = rowOf("goes, 1 each, to the first ones that are below MOST", "words 1 letters 5", "", "words 4",
                "words 4");
        columnsAt(s, 8, 5, 0, 2, 1);
        columnsAt(s, 9, 5, 0, 2, 2);
        columnsAt(s, 18, 5, 0, 7, 6);
        columnsAt(s, 19, 5, 0, 7, 7);
    }

    private static void rowsAsWideAsAllColumns() {
        Sheet s = rowOf("A ROW is as wide as all columns", "words 3 letters 5", "words 2 letters 4");
        int one = s.make(1, "flex");
        s.make(one, "block words 1");
        int none = s.make(1, "table");
        for (int[] row : new int[][] {{0, 9}, {9, 9}, {20, 20}, {26, 26}, {90, 26}}) {
            s.change(1, "width " + row[0]);
            s.page.layout(0, 0);
            s.width(1, row[0]);
            s.width(2, row[1]);
            s.width(one, row[1]);
            s.width(none, row[1]);
        }
    }

    private static void cellsAsWideAsTheirColumn() {
        Sheet s = rowOf("a CELL as its column, less its padding", "words 3 letters 5", "words 1 letters 4");
        int lower = s.make(1, "block");
        int cell = s.make(lower, "block padding 2 words 9 letters 5");
        int next = s.make(lower, "block padding 1");
        s.change(1, "width 25");
        s.page.layout(0, 0);
        s.columns(1, 21, 4);
        s.widths(3, 21, 4);
        s.frame(cell, 0, 10, 21, 34);
        s.frame(next, 21, 10, 4, 34);
        int inside = s.make(cell, "block height 5");
        s.page.layout(0, 0);
        s.columns(1, 17, 4);
        s.frame(inside, 2, 12, 13, 5);
    }

    private static void cellsNotBelowNothing() {
        Sheet s = rowOf("less its padding (but not below 0)", "padding 100", "words 1");
        columnsAt(s, 0, 200, 1);
        s.frame(3, 0, 0, 200, 200);
        s.frame(4, 200, 0, 1, 200);
        int inside = s.make(3, "block width 100%");
        s.page.layout(0, 0);
        s.frame(inside, 100, 100, 0, 0);
    }

    private static void freeOnesHaveNoColumn() {
        Sheet s = rowOf("column k are the k-th CELLS of all ROWS", "free 1 words 9", "words 1 letters 3",
                "free 1 width 5", "words 1 letters 4");
        int freeRow = s.make(1, "block free 1");
        s.make(freeRow, "block words 1 letters 20");
        columnsAt(s, 100, 3, 4);
        s.place(4, 0, 0);
        s.place(6, 3, 0);
        s.width(4, 3);
        s.width(6, 4);
        s.change(3, "free 0");
        columnsAt(s, 100, 17, 3, 4);
        s.change(freeRow, "free 0");
        columnsAt(s, 100, 20, 3, 4);
    }

    private static void withoutColumns() {
        Sheet s = sheet("IndexOutOfBoundsException if there is .. no such column");
        int table = s.make(0, "table words 5");
        s.page.layout(10, 10);
        s.columns(table);
        int row = s.make(table, "block words 3");
        s.page.layout(10, 10);
        s.columns(table);
        s.width(row, 0);
        s.make(row, "block");
        s.page.layout(10, 10);
        s.columns(table, 0);
    }

    private static void asItWasLaidOut() {
        Sheet s = rowOf("The width of column k of a table as it was laid out", "words 3 letters 5",
                "words 2 letters 4");
        s.page.layout(26, 0);
        s.columns(1, 17, 9);
        s.page.layout(9, 0);
        s.columns(1, 5, 4);
        s.refused("a page too wide", Sheet.NO_ARGUMENT, () -> s.page.layout(5001, 0));
        s.columns(1, 5, 4);
        s.sizes(1, 9, 26);
        s.columns(1, 5, 4);
    }

    private static void noSuchBox() {
        Sheet s = rowOf("IndexOutOfBoundsException if there is no such box", "words 1");
        int[] noBoxes = {-1, 4, 39, 40, Integer.MAX_VALUE, Integer.MIN_VALUE};
        for (int box : noBoxes) {
            s.refused("column(" + box + ", 0)", Sheet.NO_INDEX, () -> s.page.column(box, 0));
        }
        s.page.layout(10, 10);
        for (int box : noBoxes) {
            s.refused("column(" + box + ", 0)", Sheet.NO_INDEX, () -> s.page.column(box, 0));
        }
    }

    private static void noTable() {
        Sheet s = sheet("UnsupportedOperationException if it is no TABLE (a ROW is none)");
        int flex = s.make(0, "flex");
        int table = s.make(0, "table");
        int row = s.make(table, "table");
        int cell = s.make(row, "block");
        for (int round = 0; round < 2; round++) {
            for (int box : new int[] {0, flex, row, cell}) {
                for (int k : new int[] {0, 1, -1}) {
                    s.refused("column(" + box + ", " + k + ")", Sheet.NO_SUPPORT, () -> s.page.column(box, k));
                }
            }
            s.page.layout(10, 10);
        }
        s.columns(table, 0);
    }

    private static void notLaidOut() {
        Sheet s = rowOf("IllegalStateException if it is not laid out", "words 1");
        s.refused("column(1, 0)", Sheet.NO_STATE, () -> s.page.column(1, 0));
        s.page.layout(10, 10);
        s.columns(1, 1);
        s.change(0, "level 1");
        s.refused("column(1, 0)", Sheet.NO_STATE, () -> s.page.column(1, 0));
        s.page.layout(10, 10);
        s.make(0, "block");
        s.refused("column(1, 0)", Sheet.NO_STATE, () -> s.page.column(1, 0));
    }

    private static void noSuchColumn() {
        Sheet s = rowOf("IndexOutOfBoundsException if there is .. no such column", "words 1", "words 2");
        int other = s.make(0, "table");
        s.make(s.make(other, "block"), "block words 3");
        s.page.layout(10, 10);
        for (int k : new int[] {-1, 2, 3, 39, 40, Integer.MAX_VALUE, Integer.MIN_VALUE}) {
            s.refused("column(1, " + k + ")", Sheet.NO_INDEX, () -> s.page.column(1, k));
        }
        s.refused("the table's before it", Sheet.NO_INDEX, () -> s.page.column(other, -1));
        s.columns(1, 1, 3);
        s.columns(other, 5);
    }

    private static void columnTestedLast() {
        Sheet s = rowOf("(The column is tested last.)", "words 1");
        s.refused("no table, no column", Sheet.NO_SUPPORT, () -> s.page.column(2, 7));
        s.refused("not laid out, no column", Sheet.NO_STATE, () -> s.page.column(1, 7));
        s.refused("not laid out, no column", Sheet.NO_STATE, () -> s.page.column(1, -1));
        s.refused("not laid out, no table", Sheet.NO_SUPPORT, () -> s.page.column(0, 0));
        s.refused("not laid out, no box, no column", Sheet.NO_INDEX, () -> s.page.column(4, 7));
    }

    private static void rowsBecomeTables() {
        Sheet s = sheet("UnsupportedOperationException if it is no TABLE (a ROW is none), by what it is now");
        int table = s.make(0, "table");
        int box = s.make(table, "table");
        int inside = s.make(box, "table");
        s.make(inside, "table words 2");
        s.page.layout(50, 50);
        s.refused("a ROW", Sheet.NO_SUPPORT, () -> s.page.column(box, 0));
        s.columns(inside);
        s.change(box, "free 1");
        s.refused("a FREE table", Sheet.NO_STATE, () -> s.page.column(box, 0));
        s.refused("its ROW", Sheet.NO_SUPPORT, () -> s.page.column(inside, 0));
        s.page.layout(50, 50);
        s.columns(table);
        s.columns(box, 3);
        s.change(box, "free 0");
        s.refused("a ROW again", Sheet.NO_SUPPORT, () -> s.page.column(box, 0));
        s.refused("its CELL, a TABLE", Sheet.NO_STATE, () -> s.page.column(inside, 0));
    }

    private static void tablesApart() {
        Sheet s = sheet("A TABLE of width W: .. its columns");
        int first = s.make(0, "table width 10");
        int firstRow = s.make(first, "block");
        int second = s.make(0, "table width 9");
        int secondRow = s.make(second, "block");
        for (int k = 0; k < 2; k++) {
            s.make(firstRow, "block words 5 letters 2");
            s.make(secondRow, "block words 3 letters 3");
        }
        int third = s.make(0, "table width 2");
        s.make(s.make(third, "block"), "block words 4");
        for (int round = 0; round < 2; round++) {
            s.page.layout(0, 0);
            s.columns(first, 5, 5);
            s.columns(second, 5, 4);
            s.columns(third, 2);
        }
    }

    private static void manyColumns() {
        Sheet s = sheet("at most 40 boxes: one row with 37 cells");
        int table = s.make(0, "table");
        int row = s.make(table, "block");
        for (int k = 0; k < 37; k++) {
            s.make(row, "block words 50 letters 20");
        }
        s.sizes(table, 740, 38813);
        s.change(table, "width 2000");
        s.page.layout(0, 0);
        // 1260 more than LEAST, 34 for each, and the first two get one more
        s.same("column 0", s.page.column(table, 0), 55);
        s.same("column 1", s.page.column(table, 1), 55);
        s.same("column 2", s.page.column(table, 2), 54);
        s.same("column 36", s.page.column(table, 36), 54);
        s.width(row, 2000);
        s.refused("column 37", Sheet.NO_INDEX, () -> s.page.column(table, 37));
        s.change(table, "free 1 width auto");
        s.page.layout(5000, 0);
        s.width(table, 5000);
        s.same("column 36", s.page.column(table, 36), 20 + 115);
    }
}
