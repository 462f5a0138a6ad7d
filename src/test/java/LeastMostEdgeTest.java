/** The document's "LEAST and MOST" and promises 4 and 5: one test for each sentence that names an edge. */
public final class LeastMostEdgeTest {
    private static final Check CHECK = new Check();

    public static void main(String[] args) {
        aSize();
        aPercent();
        withoutWords();
        ofWords();
        onlyFreeChildren();
        wordsBesideChildren();
        freeOnesBetween();
        ownPaddingAndMargin();
        ofABlock();
        ofAFlex();
        ofARow();
        ofATable();
        ofATableWithoutColumns();
        unequalRows();
        cellFrames();
        asItIsNow();
        asItIsNowOfATable();
        asksOnly();
        noSuchBox();
        CHECK.end();
    }

    private static Sheet sheet(String sentence) {
        return new Sheet(CHECK, sentence);
    }

    private static void aSize() {
        Sheet s = sheet("If its WIDTH is a size, both are that.");
        s.change(0, "words 3 letters 5");
        for (int size : new int[] {0, 1, 4, 5, 16, 17, 18, 2000}) {
            s.change(0, "width " + size);
            s.sizes(0, size, size);
        }
        s.change(0, "width auto");
        s.sizes(0, 5, 17);
        s.make(0, "block width 30");
        s.change(0, "width 7");
        s.sizes(0, 7, 7);
    }

    private static void aPercent() {
        Sheet s = sheet("Otherwise both are its CORES .. (Also if it is in percent.)");
        s.change(0, "words 3 letters 5");
        for (String width : new String[] {"auto", "0%", "1%", "100%"}) {
            s.change(0, "width " + width);
            s.sizes(0, 5, 17);
        }
        int child = s.make(0, "block width 50% words 2 letters 4 margin 1");
        s.sizes(child, 4, 9);
        s.sizes(0, 6, 11);
    }

    private static void withoutWords() {
        Sheet s = sheet("the lesser CORE is LETTERS (0 without WORDS), the greater .. (0 without)");
        for (String sort : new String[] {"block", "flex", "table"}) {
            int box = s.make(0, sort + " letters 20");
            s.sizes(box, 0, 0);
            s.change(box, "words 1");
            s.sizes(box, 20, 20);
            s.change(box, "words 0");
            s.sizes(box, 0, 0);
        }
    }

    private static void ofWords() {
        Sheet s = sheet("the lesser CORE is LETTERS, the greater WORDS * LETTERS + WORDS - 1");
        int[][] rows = {{1, 1, 1, 1}, {1, 20, 20, 20}, {2, 1, 1, 3}, {50, 1, 1, 99}, {50, 20, 20, 1049}, {7, 3, 3, 27}};
        for (int[] row : rows) {
            s.change(0, "words " + row[0] + " letters " + row[1]);
            s.sizes(0, row[2], row[3]);
        }
    }

    private static void onlyFreeChildren() {
        Sheet s = sheet("If it has no children in flow");
        for (String sort : new String[] {"block", "flex", "table"}) {
            int box = s.make(0, sort + " words 2 letters 4");
            int child = s.make(box, "block free 1 width 90");
            s.make(child, "block width 80");
            s.sizes(box, 4, 9);
            s.sizes(child, 90, 90);
        }
        int row = s.make(s.make(0, "table"), "flex words 2 letters 4");
        s.make(row, "block free 1 width 90");
        s.sizes(row, 4, 9);
    }

    private static void wordsBesideChildren() {
        Sheet s = sheet("Otherwise they come by its children in flow");
        for (String sort : new String[] {"block", "flex", "table"}) {
            int box = s.make(0, sort + " words 50 letters 20");
            s.sizes(box, 20, 1049);
            int child = s.make(box, "block");
            s.sizes(box, 0, 0);
            s.change(child, "free 1");
            s.sizes(box, 20, 1049);
        }
    }

    private static void ownPaddingAndMargin() {
        Sheet s = sheet("LEAST and MOST, sizes of a box");
        int box = s.make(0, "block words 2 letters 4 padding 100 margin 100");
        s.sizes(box, 4, 9);
        s.sizes(0, 404, 409);
        s.change(box, "width 6");
        s.sizes(box, 6, 6);
        s.sizes(0, 406, 406);
    }

    private static void ofABlock() {
        Sheet s = sheet("of a BLOCK the greatest of their rooms");
        int wordy = s.make(0, "block words 9 letters 2");
        s.make(0, "block words 1 letters 12");
        s.sizes(0, 12, 26);
        int empty = s.make(0, "block margin 10 padding 3");
        s.sizes(0, 26, 26);
        s.change(empty, "margin 11");
        s.sizes(0, 28, 28);
        s.change(wordy, "padding 2");
        s.sizes(0, 28, 30);
    }

    private static void ofAFlex() {
        Sheet s = sheet("of a FLEX and of a ROW the sum of these");
        int flex = s.make(0, "flex");
        s.make(flex, "block words 9 letters 2 margin 1");
        s.sizes(flex, 4, 28);
        s.make(flex, "block words 1 letters 12 padding 2");
        s.sizes(flex, 20, 44);
        s.make(flex, "block free 1 width 50");
        s.make(flex, "block width 0");
        s.sizes(flex, 20, 44);
    }

    private static void ofARow() {
        Sheet s = sheet("of a FLEX and of a ROW the sum of these");
        int row = s.make(s.make(0, "table"), "block");
        s.make(row, "block words 9 letters 2 margin 1");
        s.sizes(row, 2, 26);
        s.make(row, "block words 1 letters 12 padding 2");
        s.sizes(row, 18, 42);
        s.make(row, "block free 1 width 50");
        s.make(row, "block width 70");
        s.sizes(row, 18, 42);
    }

    private static void ofATable() {
        Sheet s = sheet("of a TABLE the sum over its columns: column k are the k-th CELLS of all ROWS");
        int table = s.make(0, "table");
        int upper = s.make(table, "block");
        int lower = s.make(table, "block");
        s.make(upper, "block words 9 letters 2");
        s.make(upper, "block words 1 letters 3");
        s.sizes(table, 2 + 3, 26 + 3);
        s.make(lower, "block free 1 words 50 letters 20");
        s.make(lower, "block words 1 letters 12");
        s.sizes(table, 12 + 3, 26 + 3);
        s.make(lower, "block words 5 letters 1");
        s.sizes(table, 12 + 3, 26 + 9);
    }

    private static void ofATableWithoutColumns() {
        Sheet s = sheet("of a TABLE the sum over its columns");
        int table = s.make(0, "table words 4 letters 5");
        s.sizes(table, 5, 23);
        int row = s.make(table, "block words 6 letters 7");
        s.sizes(row, 7, 47);
        s.sizes(table, 0, 0);
        s.make(table, "block free 1 words 6 letters 7");
        s.sizes(table, 0, 0);
        s.change(row, "free 1");
        s.sizes(table, 5, 23);
    }

    private static void unequalRows() {
        Sheet s = sheet("column k are the k-th CELLS of all ROWS");
        int table = s.make(0, "table");
        s.make(table, "block");
        int one = s.make(table, "block");
        int three = s.make(table, "block");
        int two = s.make(table, "block");
        s.make(one, "block words 1 letters 5");
        s.make(three, "block words 1 letters 2");
        s.make(three, "block words 1 letters 3");
        s.make(three, "block words 1 letters 7");
        s.make(two, "block words 1 letters 1");
        s.make(two, "block words 1 letters 9");
        s.sizes(table, 5 + 9 + 7, 5 + 9 + 7);
        s.sizes(three, 12, 12);
        s.change(three, "free 1");
        s.sizes(table, 5 + 9, 5 + 9);
    }

    private static void cellFrames() {
        Sheet s = sheet("its LEAST (MOST) the greatest frame that a cell of it has with its LEAST (MOST)");
        int table = s.make(0, "table");
        s.make(s.make(table, "block"), "block words 2 letters 6 margin 50");
        s.sizes(table, 6, 13);
        s.make(s.make(table, "block"), "block words 1 letters 2 padding 5");
        s.sizes(table, 12, 13);
        s.make(s.make(table, "block"), "block padding 7");
        s.sizes(table, 14, 14);
    }

    private static void asItIsNow() {
        Sheet s = sheet("LEAST (MOST) of a box as it is now.");
        int child = s.make(0, "block words 2 letters 6");
        s.sizes(0, 6, 13);
        s.page.layout(9, 9);
        s.sizes(0, 6, 13);
        s.change(child, "letters 7");
        s.sizes(0, 7, 15);
        s.make(child, "block width 3");
        s.sizes(0, 3, 3);
        s.change(child, "free 1");
        s.change(0, "words 5 letters 4");
        s.same("most without least before", s.page.most(0), 24);
        s.change(0, "letters 5");
        s.same("least without most before", s.page.least(0), 5);
    }

    private static void asItIsNowOfATable() {
        Sheet s = sheet("LEAST (MOST) of a box as it is now.");
        int table = s.make(0, "table");
        int cell = s.make(s.make(table, "block"), "block words 9 letters 9 padding 9");
        s.sizes(table, 27, 107);
        s.change(cell, "letters 2 padding 0");
        s.sizes(table, 2, 26);
        s.change(cell, "words 1 letters 1");
        s.sizes(table, 1, 1);
    }

    private static void freeOnesBetween() {
        Sheet s = sheet("Otherwise they come by its children in flow");
        for (String sort : new String[] {"block", "flex"}) {
            int box = s.make(0, sort + " free 1");
            s.make(box, "block free 1 width 90");
            s.make(box, "block words 2 letters 3");
            s.make(box, "block free 1 width 90");
            s.make(box, "block words 2 letters 4");
            s.make(box, "block free 1 width 90");
            s.sizes(box, sort.equals("flex") ? 3 + 4 : 4, sort.equals("flex") ? 7 + 9 : 9);
        }
        int table = s.make(0, "table free 1");
        s.make(s.make(table, "block free 1"), "block width 90");
        int row = s.make(table, "block");
        s.make(row, "block free 1 width 90");
        s.make(row, "block words 2 letters 3");
        s.make(row, "block free 1 width 90");
        s.make(row, "block words 2 letters 4");
        s.sizes(row, 7, 16);
        s.sizes(table, 7, 16);
    }

    private static void asksOnly() {
        Sheet s = sheet("least and most change nothing");
        int table = s.make(0, "table");
        int cell = s.make(s.make(table, "block"), "block words 9 letters 2");
        s.page.layout(20, 20);
        s.sizes(table, 2, 26);
        s.laidOut(true);
        s.columns(table, 20);
        s.frame(cell, 0, 0, 20, 20);
    }

    private static void noSuchBox() {
        Sheet s = sheet("IndexOutOfBoundsException if there is no such box.");
        s.make(0, "block");
        for (int box : new int[] {-1, 2, 39, 40, Integer.MAX_VALUE, Integer.MIN_VALUE}) {
            s.refused("least(" + box + ")", Sheet.NO_INDEX, () -> s.page.least(box));
            s.refused("most(" + box + ")", Sheet.NO_INDEX, () -> s.page.most(box));
        }
        s.page.layout(5, 5);
        s.refused("least(2)", Sheet.NO_INDEX, () -> s.page.least(2));
        s.refused("most(2)", Sheet.NO_INDEX, () -> s.page.most(2));
    }
}
