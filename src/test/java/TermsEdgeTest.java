/** The document's "Terms" up to LEAST and MOST: one test for each sentence that names an edge. */
public final class TermsEdgeTest {
    private static final Check CHECK = new Check();

    public static void main(String[] args) {
        fortyBoxes();
        boxZeroHasNoParent();
        childrenInTheirOrder();
        depthNine();
        threeSorts();
        boxZeroIsABlock();
        freeChildrenOfTables();
        freeChildrenOfRows();
        childrenOfFreeOnesAreNoCells();
        tablesInsideTables();
        rowsAreNothingElse();
        widthValues();
        heightValues();
        otherValues();
        boxZeroIsNeverFree();
        freeOrInFlow();
        rowValues();
        cellValues();
        sizesInsideThePadding();
        frameAndRoom();
        quotientsRoundedDown();
        CHECK.end();
    }

    private static Sheet sheet(String sentence) {
        return new Sheet(CHECK, sentence);
    }

    private static void fortyBoxes() {
        Sheet s = sheet("BOXES are 0, 1, .. in the order in which they are made, at most 40");
        for (int i = 1; i <= 39; i++) {
            s.same("box", s.make(i < 5 ? i - 1 : i % 5, "block height 1"), i);
        }
        s.same("boxes", s.page.boxes(), 40);
        s.refused("the 41st box", Sheet.NO_STATE, () -> s.page.box(0, 0));
        s.sizes(39, 0, 0);
        s.page.layout(10, 10);
        s.height(39, 1);
        s.refused("the 41st box", Sheet.NO_STATE, () -> s.page.box(0, 0));
        s.refused("box 40", Sheet.NO_INDEX, () -> s.page.frame(40, 0));
    }

    private static void boxZeroHasNoParent() {
        Sheet s = sheet("box 0 is there from the beginning and has no PARENT");
        s.refused("a child of box -1", Sheet.NO_INDEX, () -> s.page.box(-1, 0));
        s.sizes(0, 0, 0);
        s.layout(70, 50, 0);
        s.frame(0, 0, 0, 70, 0);
        s.same("the first box made", s.make(0, "block"), 1);
    }

    private static void childrenInTheirOrder() {
        Sheet s = sheet("Others are children of a box, in the order in which they are made");
        int a = s.make(0, "block");
        int b = s.make(0, "block height 5");
        int inA = s.make(a, "block height 3");
        int c = s.make(0, "block height 6");
        int alsoInA = s.make(a, "block height 4");
        s.layout(10, 10, 18);
        s.frame(a, 0, 0, 10, 7);
        s.frame(inA, 0, 0, 10, 3);
        s.frame(alsoInA, 0, 3, 10, 4);
        s.frame(b, 0, 7, 10, 5);
        s.frame(c, 0, 12, 10, 6);
    }

    private static void depthNine() {
        Sheet s = sheet("a DEPTH, 0 for box 0, otherwise 1 more than its parent's, at most 9");
        s.change(0, "margin 1");
        for (int depth = 1; depth <= 9; depth++) {
            s.same("box", s.make(depth - 1, "block margin 1"), depth);
        }
        s.refused("a box of depth 10", Sheet.NO_STATE, () -> s.page.box(9, 0));
        s.layout(30, 10, 20);
        s.frame(9, 10, 10, 10, 0);
        s.refused("a box of depth 10", Sheet.NO_STATE, () -> s.page.box(9, 2));
        s.same("a second box of depth 9", s.make(8, "flex"), 10);
        s.refused("a box of depth 10", Sheet.NO_STATE, () -> s.page.box(10, 0));
        s.same("a second box of depth 1", s.make(0, "flex"), 11);
        s.same("a box of depth 2", s.make(11, "flex"), 12);
    }

    private static void threeSorts() {
        Sheet s = sheet("A box is a BLOCK (0), a FLEX (1) or a TABLE (2).");
        int block = s.make(0, "block");
        s.make(block, "block width 6 height 2 margin 1");
        s.make(block, "block width 6 height 2 margin 1");
        int flex = s.make(0, "flex");
        s.make(flex, "block width 6 height 2 margin 1");
        s.make(flex, "block width 6 height 2 margin 1");
        int table = s.make(0, "table");
        s.make(table, "block width 6 words 2 margin 1");
        s.make(table, "block width 6 words 2 margin 1");
        s.sizes(block, 8, 8);
        s.sizes(flex, 16, 16);
        s.sizes(table, 0, 0);
        s.layout(50, 50, 7 + 4 + 40);
        s.place(block + 2, 1, 4);
        s.place(flex + 2, 9, 8);
        s.place(table + 2, 0, 31);
        for (int sort : new int[] {-1, 3, 4, Integer.MAX_VALUE, Integer.MIN_VALUE}) {
            s.refused("sort " + sort, Sheet.NO_ARGUMENT, () -> s.page.box(0, sort));
        }
    }

    private static void boxZeroIsABlock() {
        Sheet s = sheet("Box 0 is a BLOCK.");
        int a = s.make(0, "block height 4 margin 3");
        int b = s.make(0, "block height 4 width 8");
        s.sizes(0, 8, 8);
        s.layout(20, 10, 14);
        s.frame(a, 3, 3, 14, 4);
        s.frame(b, 0, 10, 8, 4);
        s.refused("a column of box 0", Sheet.NO_SUPPORT, () -> s.page.column(0, 0));
    }

    private static void freeChildrenOfTables() {
        Sheet s = sheet("The children of a TABLE are ROWS .. unless they are FREE.");
        int table = s.make(0, "table");
        int row = s.make(table, "block margin 2 padding 3 width 9 height 8");
        s.page.layout(50, 50);
        s.frame(row, 0, 0, 0, 0);
        s.change(row, "free 1");
        s.page.layout(50, 50);
        s.frame(row, 2, 2, 15, 14);
        s.change(row, "free 0");
        s.page.layout(50, 50);
        s.frame(row, 0, 0, 0, 0);
    }

    private static void freeChildrenOfRows() {
        Sheet s = sheet("and theirs are CELLS, unless they are FREE.");
        int table = s.make(0, "table");
        int row = s.make(table, "block");
        int cell = s.make(row, "block margin 2 padding 3 width 9 height 8");
        s.page.layout(50, 50);
        s.frame(cell, 0, 0, 6, 14);
        s.columns(table, 6);
        s.change(cell, "free 1");
        s.page.layout(50, 50);
        s.frame(cell, 2, 2, 15, 14);
        s.columns(table);
        s.change(cell, "free 0");
        s.page.layout(50, 50);
        s.frame(cell, 0, 0, 6, 14);
        s.columns(table, 6);
    }

    private static void childrenOfFreeOnesAreNoCells() {
        Sheet s = sheet("The children of a TABLE are ROWS and theirs are CELLS, unless they are FREE.");
        int table = s.make(0, "table");
        int free = s.make(table, "block free 1");
        int child = s.make(free, "block width 6 height 5 margin 4");
        s.sizes(free, 14, 14);
        s.page.layout(50, 50);
        s.frame(child, 4, 4, 6, 5);
        s.change(free, "free 0");
        s.sizes(free, 0, 0);
        s.page.layout(50, 50);
        s.frame(child, 0, 0, 0, 5);
    }

    private static void tablesInsideTables() {
        Sheet s = sheet("The children of a TABLE are ROWS and theirs are CELLS; a CELL may be a TABLE.");
        int[] boxes = new int[9];
        for (int depth = 1; depth < boxes.length; depth++) {
            boxes[depth] = s.make(boxes[depth - 1], "table padding 1 width 7");
        }
        s.page.layout(50, 50);
        for (int depth = 1; depth < boxes.length; depth++) {
            int box = boxes[depth];
            if (depth % 2 == 0) {
                s.refused("a ROW at depth " + depth, Sheet.NO_SUPPORT, () -> s.page.column(box, 0));
            }
        }
        // tables at the depths 1, 3, 5 and 7; the one at 7 has a row without cells
        s.columns(boxes[7]);
        s.columns(boxes[5], 2);
        s.columns(boxes[3], 4);
        s.columns(boxes[1], 6);
    }

    private static void rowsAreNothingElse() {
        for (String sort : new String[] {"block", "flex", "table"}) {
            Sheet s = sheet("(What is a ROW is never treated as a BLOCK, FLEX or TABLE.)");
            int table = s.make(0, "table");
            int row = s.make(table, sort);
            int left = s.make(row, "block words 1 letters 5 grow 9");
            int right = s.make(row, "block words 2 letters 7 grow 9");
            s.sizes(row, 12, 20);
            s.page.layout(100, 100);
            s.frame(row, 0, 0, 20, 10);
            s.frame(left, 0, 0, 5, 10);
            s.frame(right, 5, 0, 15, 10);
            s.refused("a column of a ROW", Sheet.NO_SUPPORT, () -> s.page.column(row, 0));
        }
    }

    private static void widthValues() {
        Sheet s = sheet("0 WIDTH and 1 HEIGHT: AUTO, a size 0 .. 2000, or 100000 + p for p percent, p 0 .. 100");
        lengths(s, 0);
    }

    private static void heightValues() {
        Sheet s = sheet("0 WIDTH and 1 HEIGHT: AUTO, a size 0 .. 2000, or 100000 + p for p percent, p 0 .. 100");
        lengths(s, 1);
    }

    private static void lengths(Sheet s, int property) {
        int before = -1;
        for (int value : new int[] {-1, 0, 1, 2000, 100000, 100001, 100100, -1}) {
            s.same("set to " + value, s.set(0, property, value), before);
            before = value;
        }
        int[] never = {-2, 2001, 99999, 100101, 200000, -100000, Integer.MAX_VALUE, Integer.MIN_VALUE};
        for (int value : never) {
            s.refused("set to " + value, Sheet.NO_ARGUMENT, () -> s.page.set(0, property, value));
        }
    }

    private static void otherValues() {
        ends("2 MARGIN and 3 PADDING: 0 .. 100 (0)", 2, 0, 100, 0);
        ends("2 MARGIN and 3 PADDING: 0 .. 100 (0)", 3, 0, 100, 0);
        ends("4 GROW 0 .. 9 (0)", 4, 0, 9, 0);
        ends("5 SHRINK 0 .. 9 (1)", 5, 0, 9, 1);
        ends("6 WORDS 0 .. 50 (0)", 6, 0, 50, 0);
        ends("7 LETTERS 1 .. 20 (1)", 7, 1, 20, 1);
        ends("8 LEVEL -9 .. 9 (0)", 8, -9, 9, 0);
        ends("9 FREE 0 or 1 (0)", 9, 0, 1, 0);
        ends("10 LEFT and 11 TOP: -500 .. 500 (0)", 10, -500, 500, 0);
        ends("10 LEFT and 11 TOP: -500 .. 500 (0)", 11, -500, 500, 0);
    }

    private static void ends(String sentence, int property, int lowest, int highest, int first) {
        for (int box = 0; box < 2; box++) {
            Sheet s = sheet(sentence);
            s.make(0, "block");
            int changed = box;
            int[] never = {lowest - 1, highest + 1, 100000, 100050, 100100, Integer.MAX_VALUE, Integer.MIN_VALUE};
            for (int value : never) {
                s.refused("set to " + value, Sheet.NO_ARGUMENT, () -> s.page.set(changed, property, value));
            }
            s.same("from the first value", s.set(box, property, lowest), first);
            s.same("from the lowest value", s.set(box, property, highest), lowest);
            s.same("from the highest value", s.set(box, property, first), highest);
            s.same("the other box's value", s.set(1 - box, property, first), first);
        }
    }

    private static void boxZeroIsNeverFree() {
        Sheet s = sheet("A box is FREE if that is 1 (box 0 is never)");
        s.change(0, "free 1 words 2 letters 3 margin 2");
        s.layout(100, 100, 14);
        s.frame(0, 2, 2, 96, 10);
        s.layout(5, 100, 24);
        s.frame(0, 2, 2, 1, 20);
        int child = s.make(0, "block height 7");
        s.layout(100, 100, 11);
        s.frame(child, 2, 2, 96, 7);
    }

    private static void freeOrInFlow() {
        Sheet s = sheet("A box is FREE if that is 1; those that are not are IN FLOW.");
        int first = s.make(0, "block height 5 width 8");
        int second = s.make(0, "block height 6 width 9");
        s.layout(20, 20, 11);
        s.place(second, 0, 5);
        s.change(first, "free 1");
        s.layout(20, 20, 6);
        s.place(second, 0, 0);
        s.change(second, "free 1");
        s.sizes(0, 0, 0);
        s.layout(20, 20, 0);
        s.change(first, "free 0");
        s.layout(20, 20, 5);
    }

    private static void rowValues() {
        String sentence = "For a ROW, MARGIN, PADDING, WIDTH and HEIGHT count as 0, 0, AUTO and AUTO";
        String[] changes = {"margin 100", "padding 100", "width 2000", "width 0", "width 50%", "height 2000",
            "height 0", "height 50%"};
        for (String change : changes) {
            Sheet s = sheet(sentence + " (" + change + ")");
            int table = s.make(0, "table height 300");
            int row = s.make(table, "flex " + change);
            int cell = s.make(row, "block words 2 letters 4");
            int below = s.make(table, "block");
            s.sizes(row, 4, 9);
            s.sizes(table, 4, 9);
            s.layout(50, 50, 300);
            s.frame(row, 0, 0, 9, 10);
            s.frame(cell, 0, 0, 9, 10);
            s.frame(below, 0, 10, 9, 0);
        }
        Sheet s = sheet("For a ROW they only count as that: set still answers what they were");
        int row = s.make(s.make(0, "table"), "block margin 7");
        s.same("margin of a ROW", s.set(row, 2, 8), 7);
    }

    private static void cellValues() {
        String sentence = "for a CELL, MARGIN and WIDTH as 0 and AUTO";
        for (String change : new String[] {"margin 100", "width 2000", "width 0", "width 50%"}) {
            Sheet s = sheet(sentence + " (" + change + ")");
            int table = s.make(0, "table");
            int row = s.make(table, "block");
            int cell = s.make(row, "block words 2 letters 4 padding 1 " + change);
            int next = s.make(row, "block words 1 letters 3");
            s.sizes(cell, 4, 9);
            s.sizes(row, 9, 14);
            s.layout(50, 50, 12);
            s.frame(cell, 0, 0, 11, 12);
            s.frame(next, 11, 0, 3, 12);
        }
        Sheet s = sheet("for a CELL, PADDING and HEIGHT count");
        int cell = s.make(s.make(s.make(0, "table"), "block"), "block padding 3 height 4");
        s.layout(50, 50, 10);
        s.frame(cell, 0, 0, 6, 10);
    }

    private static void sizesInsideThePadding() {
        Sheet s = sheet("WIDTH and HEIGHT are of what is inside the padding.");
        int box = s.make(0, "block width 30 height 20 padding 4 margin 7");
        int inside = s.make(box, "block width 100% height 100%");
        s.page.layout(100, 100);
        s.frame(box, 7, 7, 38, 28);
        s.frame(inside, 11, 11, 30, 20);
    }

    private static void frameAndRoom() {
        Sheet s = sheet("The FRAME .. with its padding, the ROOM .. with its padding and margin, on both sides.");
        s.change(0, "padding 2 margin 5");
        int box = s.make(0, "block width 30 height 20 padding 4 margin 3");
        s.sizes(0, 30 + 8 + 6, 30 + 8 + 6);
        s.sizes(box, 30, 30);
        s.layout(100, 100, 20 + 8 + 6 + 4 + 10);
        s.frame(0, 5, 5, 90, 20 + 8 + 6 + 4);
        s.frame(box, 10, 10, 38, 28);
    }

    private static void quotientsRoundedDown() {
        Sheet s = sheet("Quotients are rounded down");
        int box = s.make(0, "block width 99% height 99%");
        int[][] rows = {{0, 0}, {1, 0}, {2, 1}, {99, 98}, {100, 99}, {101, 99}, {199, 197}, {200, 198}};
        s.change(0, "height 100%");
        for (int[] row : rows) {
            s.page.layout(row[0], row[0]);
            s.frame(box, 0, 0, row[1], row[1]);
        }
        s.change(box, "width 1% height 1%");
        s.page.layout(99, 99);
        s.frame(box, 0, 0, 0, 0);
        s.page.layout(100, 100);
        s.frame(box, 0, 0, 1, 1);
    }
}
