/** Promises 4 and 5: least and most. */
public final class LeastMostTest {
    private static final Check CHECK = new Check();

    public static void main(String[] args) {
        ofWords();
        ofWidths();
        ofBlocks();
        ofFlexes();
        ofTables();
        ofRowsAndCells();
        ofFreeBoxes();
        ofWrongBoxes();
        CHECK.end();
    }

    private static void both(PageLayouter page, int box, int least, int most) {
        CHECK.same("least of " + box, page.least(box), least);
        CHECK.same("most of " + box, page.most(box), most);
    }

    private static void ofWords() {
        PageLayouter page = new PageLayouter();
        page.set(0, Props.LETTERS, 20);
        both(page, 0, 0, 0);
        page.set(0, Props.WORDS, 1);
        both(page, 0, 20, 20);
        page.set(0, Props.WORDS, 50);
        both(page, 0, 20, 1049);
        for (int sort = 0; sort < 3; sort++) {
            both(page, Props.make(page, 0, sort, Props.WORDS, 3, Props.LETTERS, 4), 4, 14);
        }
    }

    private static void ofWidths() {
        PageLayouter page = new PageLayouter();
        Props.change(page, 0, Props.WORDS, 3, Props.LETTERS, 4, Props.PADDING, 5, Props.MARGIN, 6);
        both(page, 0, 4, 14);
        page.set(0, Props.WIDTH, 2);
        both(page, 0, 2, 2);
        page.set(0, Props.WIDTH, 0);
        both(page, 0, 0, 0);
        page.set(0, Props.WIDTH, Props.PERCENT + 50);
        both(page, 0, 4, 14);
    }

    private static void ofBlocks() {
        PageLayouter page = new PageLayouter();
        Props.change(page, 0, Props.WORDS, 50, Props.LETTERS, 20);
        Props.make(page, 0, 0, Props.WORDS, 2, Props.LETTERS, 3, Props.MARGIN, 10, Props.PADDING, 1);
        both(page, 0, 25, 29);
        Props.make(page, 0, 0, Props.WIDTH, 27);
        both(page, 0, 27, 29);
    }

    private static void ofFlexes() {
        PageLayouter page = new PageLayouter();
        int flex = page.box(0, Props.FLEX);
        Props.make(page, flex, 0, Props.WORDS, 2, Props.LETTERS, 3, Props.MARGIN, 10, Props.PADDING, 1);
        Props.make(page, flex, 0, Props.WIDTH, 27);
        Props.make(page, flex, 0, Props.WIDTH, Props.PERCENT + 100, Props.WORDS, 2);
        both(page, flex, 25 + 27 + 1, 29 + 27 + 3);
        page.set(flex, Props.PADDING, 4);
        both(page, flex, 53, 59);
        both(page, 0, 61, 67);
    }

    private static void ofTables() {
        PageLayouter page = new PageLayouter();
        int table = page.box(0, Props.TABLE);
        int upper = page.box(table, Props.FLEX);
        int lower = page.box(table, Props.TABLE);
        page.box(table, Props.BLOCK);
        Props.make(page, upper, 0, Props.WORDS, 2, Props.LETTERS, 6);
        Props.make(page, lower, 0, Props.WORDS, 9, Props.LETTERS, 1);
        Props.make(page, lower, 0, Props.WORDS, 1, Props.LETTERS, 5, Props.PADDING, 2);
        both(page, table, 6 + 9, 17 + 9);
        both(page, upper, 6, 13);
        both(page, lower, 10, 26);
    }

    private static void ofRowsAndCells() {
        PageLayouter page = new PageLayouter();
        int table = page.box(0, Props.TABLE);
        int row = Props.make(page, table, Props.TABLE, Props.WIDTH, 500, Props.WORDS, 2, Props.LETTERS, 7);
        both(page, row, 7, 15);
        both(page, table, 0, 0);
        int cell = Props.make(page, row, Props.TABLE, Props.WIDTH, 90, Props.MARGIN, 8, Props.PADDING, 3,
                Props.WORDS, 2, Props.LETTERS, 2);
        both(page, cell, 2, 5);
        both(page, row, 8, 11);
        both(page, table, 8, 11);
        Props.change(page, row, Props.PADDING, 50, Props.MARGIN, 50);
        both(page, table, 8, 11);
        int inner = Props.make(page, page.box(cell, 0), 0, Props.WIDTH, 33, Props.MARGIN, 9);
        both(page, cell, 0, 0);
        both(page, table, 6, 6);
        Props.make(page, inner, 0, Props.WIDTH, 33, Props.MARGIN, 9);
        both(page, inner, 51, 51);
        both(page, cell, 51, 51);
        both(page, table, 57, 57);
    }

    private static void ofFreeBoxes() {
        PageLayouter page = new PageLayouter();
        Props.change(page, 0, Props.WORDS, 2, Props.LETTERS, 2);
        int child = Props.make(page, 0, 0, Props.WIDTH, 70);
        both(page, 0, 70, 70);
        page.set(child, Props.FREE, 1);
        both(page, 0, 2, 5);
        both(page, child, 70, 70);
        page.set(0, Props.FREE, 1);
        both(page, 0, 2, 5);
        int table = page.box(0, Props.TABLE);
        int row = Props.make(page, table, Props.BLOCK, Props.WIDTH, 12);
        Props.make(page, row, 0, Props.WIDTH, 90, Props.FREE, 1);
        Props.make(page, row, 0, Props.WIDTH, 90, Props.WORDS, 1, Props.LETTERS, 8);
        both(page, table, 8, 8);
        page.set(row, Props.FREE, 1);
        both(page, table, 0, 0);
        both(page, row, 12, 12);
    }

    private static void ofWrongBoxes() {
        PageLayouter page = new PageLayouter();
        int[] noBoxes = {-1, 1, 40, Integer.MAX_VALUE, Integer.MIN_VALUE};
        for (int box : noBoxes) {
            CHECK.fails("least", IndexOutOfBoundsException.class, () -> page.least(box));
            CHECK.fails("most", IndexOutOfBoundsException.class, () -> page.most(box));
        }
    }
}
