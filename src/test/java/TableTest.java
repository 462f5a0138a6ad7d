/** Promises 6, 7 and 8: layout, frame and column, of tables. */
public final class TableTest {
    private static final Check CHECK = new Check();

    public static void main(String[] args) {
        findsColumnWidths();
        givesWhatIsLeftToTheFirst();
        letsRowsCountAsPlain();
        letsCellsCountWithoutMarginAndWidth();
        makesCellsAsHighAsTheirRow();
        layOutRowsWithoutCells();
        layOutFreeOnes();
        nestsTables();
        refusesWrongColumns();
        CHECK.end();
    }

    private static void columns(PageLayouter page, int table, int... due) {
        for (int k = 0; k < due.length; k++) {
            CHECK.same("column " + k, page.column(table, k), due[k]);
        }
        CHECK.fails("a column too far", IndexOutOfBoundsException.class, () -> page.column(table, due.length));
    }

    private static void findsColumnWidths() {
        PageLayouter page = new PageLayouter();
        int table = page.box(0, Props.TABLE);
        int upper = page.box(table, 0);
        int lower = page.box(table, 1);
        Props.make(page, upper, 0, Props.WORDS, 3, Props.LETTERS, 5);
        int wide = Props.make(page, upper, 0, Props.WORDS, 2, Props.LETTERS, 2, Props.PADDING, 3);
        Props.make(page, lower, 0, Props.WORDS, 1, Props.LETTERS, 8);
        int second = Props.make(page, lower, 0, Props.WORDS, 4);
        int third = Props.make(page, lower, 0, Props.WORDS, 2, Props.LETTERS, 3);
        page.layout(35, 0);
        columns(page, table, 17, 11, 7);
        CHECK.frame(page, upper, 0, 0, 35, 16);
        CHECK.frame(page, lower, 0, 16, 35, 10);
        CHECK.frame(page, wide, 17, 0, 11, 16);
        CHECK.frame(page, second, 17, 16, 11, 10);
        CHECK.frame(page, third, 28, 16, 7, 10);
        page.layout(34, 0);
        columns(page, table, 17, 11, 6);
        page.layout(19, 0);
        columns(page, table, 8, 8, 3);
        page.layout(3, 0);
        columns(page, table, 8, 8, 3);
        CHECK.same("width of the table", page.frame(table, 2), 3);
        CHECK.same("width of a row", page.frame(upper, 2), 19);
        page.layout(900, 0);
        columns(page, table, 17, 11, 7);
        CHECK.same("width of the table", page.frame(table, 2), 900);
        CHECK.same("width of a row", page.frame(upper, 2), 35);
    }

    private static void givesWhatIsLeftToTheFirst() {
        PageLayouter page = new PageLayouter();
        int table = page.box(0, Props.TABLE);
        int row = page.box(table, 0);
        Props.make(page, row, 0, Props.WORDS, 1, Props.LETTERS, 5);
        Props.make(page, row, 0, Props.WORDS, 4, Props.LETTERS, 1);
        Props.make(page, row, 0, Props.WORDS, 4, Props.LETTERS, 1);
        Props.make(page, row, 0, Props.WORDS, 4, Props.LETTERS, 1);
        page.layout(9, 0);
        columns(page, table, 5, 2, 1, 1);
        page.layout(10, 0);
        columns(page, table, 5, 2, 2, 1);
        page.layout(25, 0);
        columns(page, table, 5, 7, 7, 6);
    }

    private static void letsRowsCountAsPlain() {
        PageLayouter page = new PageLayouter();
        int table = Props.make(page, 0, Props.TABLE, Props.PADDING, 2);
        int row = Props.make(page, table, Props.FLEX, Props.MARGIN, 9, Props.PADDING, 8, Props.WIDTH, 3,
                Props.HEIGHT, 77, Props.LEFT, 1, Props.TOP, 4);
        int cell = Props.make(page, row, 0, Props.WORDS, 1, Props.LETTERS, 6, Props.GROW, 3, Props.TOP, 1);
        int below = page.box(table, Props.TABLE);
        CHECK.same("layout", page.layout(100, 100), 14);
        CHECK.frame(page, row, 3, 6, 6, 10);
        CHECK.frame(page, cell, 3, 7, 6, 10);
        CHECK.frame(page, below, 2, 12, 6, 0);
    }

    private static void letsCellsCountWithoutMarginAndWidth() {
        PageLayouter page = new PageLayouter();
        int table = page.box(0, Props.TABLE);
        int row = page.box(table, 0);
        int cell = Props.make(page, row, 0, Props.MARGIN, 7, Props.WIDTH, 90, Props.PADDING, 2, Props.WORDS, 1,
                Props.LETTERS, 3);
        int next = Props.make(page, row, 0, Props.WIDTH, Props.PERCENT + 100, Props.WORDS, 1);
        page.layout(100, 0);
        CHECK.frame(page, cell, 0, 0, 7, 14);
        CHECK.frame(page, next, 7, 0, 1, 14);
    }

    private static void makesCellsAsHighAsTheirRow() {
        PageLayouter page = new PageLayouter();
        int table = Props.make(page, 0, Props.TABLE, Props.HEIGHT, 300);
        int row = Props.make(page, table, 0, Props.HEIGHT, Props.PERCENT + 50);
        int high = Props.make(page, row, 0, Props.HEIGHT, 50, Props.PADDING, 1);
        int auto = Props.make(page, row, 0, Props.PADDING, 4);
        int part = Props.make(page, row, 0, Props.HEIGHT, Props.PERCENT + 50, Props.WORDS, 1);
        int free = Props.make(page, row, 0, Props.HEIGHT, Props.PERCENT + 50, Props.FREE, 1);
        int freeRow = Props.make(page, table, 0, Props.HEIGHT, Props.PERCENT + 50, Props.FREE, 1);
        CHECK.same("layout", page.layout(100, 0), 300);
        CHECK.same("height of the row", page.frame(row, 3), 52);
        CHECK.same("height", page.frame(high, 3), 52);
        CHECK.same("height", page.frame(auto, 3), 52);
        CHECK.same("height of a percent of nothing", page.frame(part, 3), 10);
        CHECK.same("height of a free one in a row", page.frame(free, 3), 0);
        CHECK.same("height of a free one in a table", page.frame(freeRow, 3), 150);
    }

    private static void layOutRowsWithoutCells() {
        PageLayouter page = new PageLayouter();
        int table = Props.make(page, 0, Props.TABLE, Props.WORDS, 3);
        CHECK.same("a table without rows", page.layout(100, 0), 10);
        columns(page, table);
        int row = Props.make(page, table, 0, Props.WORDS, 4, Props.LETTERS, 2);
        CHECK.same("a row without cells", page.layout(100, 0), 40);
        columns(page, table);
        CHECK.frame(page, row, 0, 0, 0, 40);
        int second = page.box(table, 0);
        Props.make(page, second, 0, Props.WORDS, 1, Props.LETTERS, 5);
        CHECK.same("a row beside one with cells", page.layout(100, 0), 30);
        CHECK.frame(page, row, 0, 0, 5, 20);
    }

    private static void layOutFreeOnes() {
        PageLayouter page = new PageLayouter();
        int table = Props.make(page, 0, Props.TABLE, Props.PADDING, 1);
        int row = page.box(table, Props.FLEX);
        int freeCell = Props.make(page, row, 0, Props.FREE, 1, Props.WIDTH, Props.PERCENT + 50, Props.MARGIN, 2);
        int cell = Props.make(page, row, 0, Props.WORDS, 1, Props.LETTERS, 12);
        int free = Props.make(page, table, Props.TABLE, Props.FREE, 1, Props.MARGIN, 3, Props.PADDING, 2);
        int inFree = page.box(free, Props.TABLE);
        page.box(inFree, Props.BLOCK);
        page.layout(100, 0);
        columns(page, table, 12);
        columns(page, free, 0);
        CHECK.frame(page, freeCell, 3, 3, 6, 0);
        CHECK.frame(page, cell, 1, 1, 12, 10);
        CHECK.frame(page, free, 4, 4, 4, 4);
        CHECK.fails("a row is no table", UnsupportedOperationException.class, () -> page.column(inFree, 0));
        page.set(row, Props.FREE, 1);
        CHECK.same("layout", page.layout(100, 0), 2);
        columns(page, table);
        CHECK.frame(page, row, 1, 1, 12, 10);
        page.set(free, Props.FREE, 0);
        page.layout(100, 0);
        columns(page, inFree);
        CHECK.fails("a row is no table", UnsupportedOperationException.class, () -> page.column(free, 0));
    }

    private static void nestsTables() {
        PageLayouter page = new PageLayouter();
        int outer = page.box(0, Props.TABLE);
        int row = page.box(outer, Props.TABLE);
        int cell = Props.make(page, row, Props.TABLE, Props.PADDING, 5);
        int innerRow = page.box(cell, Props.TABLE);
        Props.make(page, innerRow, 0, Props.WORDS, 3, Props.LETTERS, 3);
        Props.make(page, innerRow, 0, Props.WORDS, 2, Props.LETTERS, 3);
        Props.make(page, row, 0, Props.WORDS, 1, Props.LETTERS, 4);
        page.layout(26, 0);
        columns(page, outer, 22, 4);
        columns(page, cell, 7, 5);
        page.least(outer);
        page.most(outer);
        columns(page, outer, 22, 4);
        columns(page, cell, 7, 5);
    }

    private static void refusesWrongColumns() {
        PageLayouter page = new PageLayouter();
        int table = page.box(0, Props.TABLE);
        int row = page.box(table, Props.TABLE);
        page.box(row, 0);
        CHECK.fails("no box", IndexOutOfBoundsException.class, () -> page.column(4, 0));
        CHECK.fails("no table", UnsupportedOperationException.class, () -> page.column(0, 9));
        CHECK.fails("a row", UnsupportedOperationException.class, () -> page.column(row, 0));
        CHECK.fails("not laid out", IllegalStateException.class, () -> page.column(table, 0));
        CHECK.fails("not laid out, no column", IllegalStateException.class, () -> page.column(table, 1));
        page.layout(10, 10);
        columns(page, table, 0);
        for (int k : new int[] {-1, 1, 40, Integer.MAX_VALUE, Integer.MIN_VALUE}) {
            CHECK.fails("no column", IndexOutOfBoundsException.class, () -> page.column(table, k));
        }
        for (int box : new int[] {-1, 4, 40, Integer.MAX_VALUE, Integer.MIN_VALUE}) {
            CHECK.fails("no box", IndexOutOfBoundsException.class, () -> page.column(box, 0));
        }
        CHECK.fails("a row", UnsupportedOperationException.class, () -> page.column(row, 0));
        CHECK.fails("a flex", UnsupportedOperationException.class, () -> page.column(page.box(0, 1), 0));
    }
}
