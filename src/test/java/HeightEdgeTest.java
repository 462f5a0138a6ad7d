/** The document's "HEIGHTS": one test for each sentence that names an edge. */
public final class HeightEdgeTest {
    private static final Check CHECK = new Check();

    public static void main(String[] args) {
        fixedSizes();
        percentOfThePage();
        percentOfAFixedParent();
        percentOfAParentWithoutOne();
        percentInRows();
        percentInCells();
        percentOfFreeBoxes();
        fixedWhateverIsInside();
        linesOfWords();
        atLeastOneWordALine();
        noWords();
        lastLines();
        blockMargins();
        blockOfOneChild();
        blockInABlock();
        blockWithFreeChildren();
        flexHeight();
        rowHeight();
        tableHeight();
        stretchedInAFlex();
        stretchedNotBelowNothing();
        notStretched();
        stretchedInARow();
        nothingInsideChanges();
        emptyRows();
        CHECK.end();
    }

    private static Sheet sheet(String sentence) {
        return new Sheet(CHECK, sentence);
    }

    private static void fixedSizes() {
        Sheet s = sheet("A box has a FIXED height if HEIGHT is a size");
        s.change(0, "words 3 height 0");
        s.layout(10, 10, 0);
        s.change(0, "height 2000 padding 1 margin 2");
        s.layout(10, 0, 2006);
        s.height(0, 2002);
    }

    private static void percentOfThePage() {
        Sheet s = sheet("or percent and its parent (for box 0 the page) has a fixed one: so much of that");
        s.change(0, "words 3 height 50%");
        s.layout(0, 0, 0);
        s.layout(0, 1, 0);
        s.layout(0, 2, 1);
        s.layout(0, 5000, 2500);
        s.change(0, "height 0%");
        s.layout(0, 5000, 0);
        s.change(0, "height 100% margin 3");
        s.layout(0, 5000, 5006);
    }

    private static void percentOfAFixedParent() {
        Sheet s = sheet("percent and its parent has a fixed one: so much of that");
        s.change(0, "height 50%");
        int child = s.make(0, "block height 50% padding 9");
        int inner = s.make(child, "block height 50% words 1");
        int flex = s.make(child, "flex height 100%");
        int inFlex = s.make(flex, "block height 10%");
        int table = s.make(child, "table height 8%");
        s.layout(9, 101, 50);
        s.height(child, 25 + 18);
        s.height(inner, 12);
        s.height(flex, 25);
        s.height(inFlex, 2);
        s.height(table, 2);
        s.layout(9, 0, 0);
        s.height(inner, 0);
    }

    private static void percentOfAParentWithoutOne() {
        Sheet s = sheet("A box has a FIXED height if .. its parent has a fixed one; otherwise ..");
        int child = s.make(0, "block height 50% words 2 letters 5");
        int inner = s.make(child, "block height 100% words 3 letters 5");
        s.layout(5, 100, 30);
        s.height(child, 30);
        s.height(inner, 30);
        s.change(0, "height 100%");
        s.layout(5, 100, 100);
        s.height(child, 50);
        s.height(inner, 50);
    }

    private static void percentInRows() {
        Sheet s = sheet("a TABLE's ROWS have none");
        int table = s.make(0, "table height 90");
        int row = s.make(table, "block height 40");
        int cell = s.make(row, "block height 50% words 1 letters 3");
        int free = s.make(row, "block free 1 height 50% words 2 letters 3 width 3");
        s.layout(50, 50, 90);
        s.height(row, 10);
        s.height(cell, 10);
        s.height(free, 20);
        s.change(row, "height 50%");
        s.page.layout(50, 50);
        s.height(row, 10);
        s.height(cell, 10);
    }

    private static void percentInCells() {
        Sheet s = sheet("A box has a FIXED height if HEIGHT is a size, or percent and its parent has a fixed one");
        int row = s.make(s.make(0, "table"), "block");
        int cell = s.make(row, "block height 40");
        int inside = s.make(cell, "block height 50%");
        int high = s.make(row, "block");
        s.make(high, "block height 70");
        int part = s.make(high, "block height 50% words 1");
        s.layout(50, 50, 80);
        s.height(inside, 20);
        s.height(cell, 40);
        s.height(high, 80);
        s.height(part, 10);
    }

    private static void percentOfFreeBoxes() {
        Sheet s = sheet("percent and its parent has a fixed one");
        s.change(0, "height 60");
        int free = s.make(0, "block free 1 height 50%");
        int loose = s.make(0, "block");
        int inLoose = s.make(loose, "block free 1 height 50% words 1");
        int table = s.make(0, "table height 44");
        int inTable = s.make(table, "block free 1 height 50%");
        s.page.layout(10, 10);
        s.height(free, 30);
        s.height(inLoose, 10);
        s.height(inTable, 22);
    }

    private static void fixedWhateverIsInside() {
        Sheet s = sheet("h is the fixed height");
        for (String sort : new String[] {"block", "flex", "table"}) {
            int box = s.make(0, sort + " height 5");
            s.make(s.make(box, "block"), "block height 30");
            int below = s.make(0, "block");
            s.page.layout(10, 10);
            s.height(box, 5);
            s.same("y below", s.page.frame(below, 1), s.page.frame(box, 1) + 5);
        }
    }

    private static void linesOfWords() {
        Sheet s = sheet("with n = (w + 1) / (LETTERS + 1) .. words a line, as many lines as WORDS need");
        s.change(0, "words 7 letters 4");
        int[][] rows = {{8, 70}, {9, 40}, {13, 40}, {14, 30}, {18, 30}, {19, 20}, {33, 20}, {34, 10}, {5000, 10}};
        for (int[] row : rows) {
            s.layout(row[0], 0, row[1]);
        }
        s.change(0, "words 50 letters 20");
        s.layout(1048, 0, 20);
        s.layout(1049, 0, 10);
    }

    private static void atLeastOneWordALine() {
        Sheet s = sheet("n = (w + 1) / (LETTERS + 1), but at least 1, words a line");
        s.change(0, "words 3 letters 20");
        s.layout(0, 0, 30);
        s.layout(19, 0, 30);
        s.layout(20, 0, 30);
        s.layout(40, 0, 30);
        s.layout(41, 0, 20);
        s.change(0, "letters 1");
        s.layout(0, 0, 30);
        s.layout(2, 0, 30);
        s.layout(3, 0, 20);
    }

    private static void noWords() {
        Sheet s = sheet("10 for each line: .. as many lines as WORDS need");
        s.change(0, "words 0 letters 20");
        s.layout(0, 0, 0);
        s.layout(5000, 0, 0);
        s.change(0, "words 1");
        s.layout(0, 0, 10);
    }

    private static void lastLines() {
        Sheet s = sheet("as many lines as WORDS need");
        s.change(0, "letters 1 width 5");
        int[][] rows = {{1, 10}, {2, 10}, {3, 10}, {4, 20}, {6, 20}, {7, 30}, {48, 160}, {49, 170}, {50, 170}};
        for (int[] row : rows) {
            s.change(0, "words " + row[0]);
            s.layout(0, 0, row[1]);
        }
    }

    private static void blockMargins() {
        Sheet s = sheet("before the first and behind the last one there is its margin, between two the greater one");
        int a = s.make(0, "block margin 5 height 10");
        int flat = s.make(0, "block margin 9 height 0");
        int b = s.make(0, "block margin 2 height 10");
        int c = s.make(0, "block margin 2 height 10");
        int d = s.make(0, "block height 10");
        int e = s.make(0, "block height 10 margin 100");
        s.layout(300, 0, 5 + 10 + 9 + 0 + 9 + 10 + 2 + 10 + 2 + 10 + 100 + 10 + 100);
        s.place(a, 5, 5);
        s.place(flat, 9, 24);
        s.place(b, 2, 33);
        s.place(c, 2, 45);
        s.place(d, 0, 57);
        s.place(e, 100, 167);
    }

    private static void blockOfOneChild() {
        Sheet s = sheet("before the first and behind the last one there is its margin");
        s.make(0, "block margin 100");
        s.layout(10, 0, 200);
        s.height(0, 200);
    }

    private static void blockInABlock() {
        Sheet s = sheet("before the first and behind the last one there is its margin; h is all this");
        int outer = s.make(0, "block margin 5");
        int inner = s.make(outer, "block margin 7 height 3");
        s.layout(100, 0, 5 + 7 + 3 + 7 + 5);
        s.frame(outer, 5, 5, 90, 17);
        s.frame(inner, 12, 12, 76, 3);
    }

    private static void blockWithFreeChildren() {
        Sheet s = sheet("by the children in flow: of a BLOCK: they stand one below the other");
        s.make(0, "block free 1 height 90 margin 50");
        int a = s.make(0, "block margin 3 height 4");
        s.make(0, "block free 1 height 90 margin 50");
        int b = s.make(0, "block margin 2 height 4");
        s.make(0, "block free 1 height 90 margin 50");
        s.layout(100, 0, 3 + 4 + 3 + 4 + 2);
        s.place(a, 3, 3);
        s.place(b, 2, 10);
    }

    private static void flexHeight() {
        Sheet s = sheet("Of a FLEX: the greatest room.");
        int flex = s.make(0, "flex words 9");
        s.make(flex, "block free 1 height 90");
        int empty = s.make(flex, "block");
        s.layout(100, 0, 0);
        s.make(flex, "block free 1 height 90");
        s.make(flex, "block width 5 height 10 margin 4");
        s.layout(100, 0, 18);
        s.height(empty, 18);
        int padded = s.make(flex, "block width 5 height 12 padding 3");
        s.layout(100, 0, 18);
        s.change(padded, "padding 4");
        s.layout(100, 0, 20);
        s.make(flex, "block free 1 height 90");
        s.layout(100, 0, 20);
    }

    private static void rowHeight() {
        Sheet s = sheet("Of a ROW: the greatest frame of its CELLS.");
        int row = s.make(s.make(0, "table"), "block");
        s.make(row, "block height 10 margin 50");
        s.layout(100, 0, 10);
        s.make(row, "block height 5 padding 3");
        s.layout(100, 0, 11);
        s.make(row, "block free 1 height 90");
        s.layout(100, 0, 11);
        s.height(row, 11);
    }

    private static void tableHeight() {
        Sheet s = sheet("Of a TABLE: the sum of its ROWS.");
        int table = s.make(0, "table");
        s.make(s.make(table, "block margin 30"), "block height 10");
        s.layout(100, 0, 10);
        s.make(s.make(table, "block padding 30"), "block height 7");
        s.layout(100, 0, 17);
        s.make(table, "block free 1 height 90");
        s.layout(100, 0, 17);
        s.height(table, 17);
    }

    private static void stretchedInAFlex() {
        Sheet s = sheet("each child in flow of HEIGHT AUTO gets as high as makes its room h");
        int flex = s.make(0, "flex");
        s.make(flex, "block width 5 height 30");
        int empty = s.make(flex, "block margin 4 padding 5");
        int wordy = s.make(flex, "block words 2 letters 3");
        s.layout(100, 0, 30);
        s.height(empty, 22);
        s.height(wordy, 30);
        s.change(flex, "height 50");
        s.layout(100, 0, 50);
        s.height(empty, 42);
        s.height(wordy, 50);
    }

    private static void stretchedNotBelowNothing() {
        Sheet s = sheet("gets as high as makes its room h (but not below 0)");
        int flex = s.make(0, "flex height 7");
        int child = s.make(flex, "block margin 3 words 1");
        s.page.layout(100, 0);
        s.height(child, 1);
        s.change(flex, "height 6");
        s.page.layout(100, 0);
        s.height(child, 0);
        s.change(flex, "height 5");
        s.page.layout(100, 0);
        s.height(child, 0);
        s.change(child, "padding 2");
        s.page.layout(100, 0);
        s.height(child, 4);
    }

    private static void notStretched() {
        Sheet s = sheet("each child in flow of HEIGHT AUTO");
        int flex = s.make(0, "flex height 40");
        int freeFirst = s.make(flex, "block free 1 words 1");
        int nothing = s.make(flex, "block height 0 words 1");
        int size = s.make(flex, "block height 90");
        int part = s.make(flex, "block height 50%");
        int free = s.make(flex, "block free 1 words 1");
        s.make(flex, "block");
        s.page.layout(100, 0);
        s.height(freeFirst, 10);
        s.height(nothing, 0);
        s.height(size, 90);
        s.height(part, 20);
        s.height(free, 10);
        s.change(flex, "height auto");
        s.change(part, "words 1");
        s.layout(100, 0, 90);
        s.height(part, 10);
    }

    private static void stretchedInARow() {
        Sheet s = sheet("when a ROW has its h, each CELL of HEIGHT AUTO as makes its frame h");
        int row = s.make(s.make(0, "table"), "flex");
        s.make(row, "block height 30 padding 1");
        int auto = s.make(row, "block padding 6 margin 9");
        int size = s.make(row, "block height 4");
        int part = s.make(row, "block height 50% words 1");
        int free = s.make(row, "block free 1 words 1");
        s.layout(100, 0, 32);
        s.height(auto, 32);
        s.height(size, 4);
        s.height(part, 10);
        s.height(free, 10);
    }

    private static void nothingInsideChanges() {
        Sheet s = sheet("(Nothing inside them changes by that.)");
        int flex = s.make(0, "flex height 90");
        int inner = s.make(flex, "flex");
        int low = s.make(inner, "block words 1");
        int part = s.make(inner, "block height 100% words 1");
        int row = s.make(s.make(0, "table"), "block");
        s.make(row, "block height 80");
        int cell = s.make(row, "flex");
        int inCell = s.make(cell, "block words 1");
        int partInCell = s.make(cell, "block height 50% words 1");
        s.layout(100, 0, 170);
        s.height(inner, 90);
        s.height(low, 10);
        s.height(part, 10);
        s.height(cell, 80);
        s.height(inCell, 10);
        s.height(partInCell, 10);
    }

    private static void emptyRows() {
        Sheet s = sheet("otherwise, if there are no children in flow: 10 for each line");
        int table = s.make(0, "table");
        int row = s.make(table, "block words 4 letters 2");
        int bare = s.make(table, "block");
        s.layout(100, 0, 40);
        s.height(row, 40);
        s.height(bare, 0);
        s.make(bare, "block words 1 letters 5");
        s.layout(100, 0, 30);
        s.height(row, 20);
    }
}
