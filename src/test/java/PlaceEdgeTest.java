/** The document's "PLACES": one test for each sentence that names an edge. */
public final class PlaceEdgeTest {
    private static final Check CHECK = new Check();

    public static void main(String[] args) {
        boxZero();
        inside();
        inABlock();
        inAFlex();
        rows();
        cells();
        freeOnes();
        freeOnesIgnoreThoseInFlow();
        movedOnesTakeTheirInsides();
        movedFarthest();
        movedInEveryParent();
        CHECK.end();
    }

    private static Sheet sheet(String sentence) {
        return new Sheet(CHECK, sentence);
    }

    private static void boxZero() {
        Sheet s = sheet("Box 0 has its margin as both.");
        s.page.layout(0, 0);
        s.place(0, 0, 0);
        s.change(0, "margin 100 padding 50");
        s.page.layout(0, 0);
        s.place(0, 100, 100);
        s.change(0, "left -500 top 500");
        s.layout(0, 0, 300);
        s.place(0, -400, 600);
    }

    private static void inside() {
        Sheet s = sheet("The inside of a box begins at its place and its padding.");
        s.change(0, "margin 4 padding 3");
        int child = s.make(0, "block padding 2");
        int inner = s.make(child, "block");
        s.page.layout(50, 50);
        s.place(child, 7, 7);
        s.place(inner, 9, 9);
    }

    private static void inABlock() {
        Sheet s = sheet("of a BLOCK its margin to the right, and one below the other as said");
        s.change(0, "padding 1");
        int a = s.make(0, "block margin 6 height 2");
        int b = s.make(0, "block height 2 padding 4");
        int c = s.make(0, "block margin 8 width 300 height 2");
        s.page.layout(50, 50);
        s.place(a, 7, 7);
        s.place(b, 1, 15);
        s.place(c, 9, 33);
    }

    private static void inAFlex() {
        Sheet s = sheet("of a FLEX one beside the other by their rooms, each with its margin to the right and down");
        int flex = s.make(0, "flex padding 1");
        int a = s.make(flex, "block width 10 margin 6 padding 2");
        int none = s.make(flex, "block width 0");
        int b = s.make(flex, "block width 10 margin 3");
        int c = s.make(flex, "block width 10");
        s.page.layout(200, 50);
        s.place(a, 7, 7);
        s.place(none, 27, 1);
        s.place(b, 30, 4);
        s.place(c, 43, 1);
    }

    private static void rows() {
        Sheet s = sheet("ROWS one below the other");
        int table = s.make(0, "table padding 2 margin 1");
        int a = s.make(table, "block margin 9 padding 9");
        s.make(a, "block height 5");
        int empty = s.make(table, "block margin 9");
        int b = s.make(table, "flex margin 9");
        s.page.layout(50, 50);
        s.place(a, 3, 3);
        s.place(empty, 3, 8);
        s.place(b, 3, 8);
    }

    private static void cells() {
        Sheet s = sheet("CELLS one beside the other by their columns");
        int table = s.make(0, "table padding 2");
        int upper = s.make(table, "block padding 9");
        int a = s.make(upper, "block words 1 letters 9 margin 7");
        int b = s.make(upper, "block words 1");
        int lower = s.make(table, "block");
        int c = s.make(lower, "block words 1 letters 2 margin 7");
        int d = s.make(lower, "block words 1 letters 4");
        int e = s.make(lower, "block");
        s.page.layout(100, 50);
        s.place(a, 2, 2);
        s.place(b, 11, 2);
        s.place(c, 2, 12);
        s.place(d, 11, 12);
        s.place(e, 15, 12);
    }

    private static void freeOnes() {
        Sheet s = sheet("FREE: its margin to the right and down.");
        int[] boxes = new int[3];
        String[] sorts = {"block", "flex", "table"};
        for (int i = 0; i < 3; i++) {
            boxes[i] = s.make(0, sorts[i] + " padding 4 height 20");
            int free = s.make(boxes[i], "block free 1 margin 6");
            s.page.layout(50, 50);
            s.place(free, 10, 28 * i + 10);
        }
        int row = s.make(boxes[2], "block padding 9 margin 9");
        int inRow = s.make(row, "block free 1 margin 6");
        int cell = s.make(row, "block padding 3 margin 9");
        int inCell = s.make(cell, "block free 1 margin 6");
        s.page.layout(50, 50);
        s.place(inRow, 10, 66);
        s.place(inCell, 13, 69);
    }

    private static void freeOnesIgnoreThoseInFlow() {
        Sheet s = sheet("FREE: its margin to the right and down, to the inside of the parent.");
        for (String sort : new String[] {"block", "flex", "table"}) {
            int box = s.make(0, sort + " free 1");
            int before = s.make(box, "block width 8 height 9 words 1");
            int free = s.make(box, "block free 1 margin 2");
            int behind = s.make(box, "block width 8 height 9 words 1");
            s.page.layout(50, 50);
            s.place(before, 0, 0);
            s.place(free, 2, 2);
            s.place(behind, sort.equals("flex") ? 8 : 0, sort.equals("flex") ? 0 : sort.equals("block") ? 9 : 10);
        }
    }

    private static void movedOnesTakeTheirInsides() {
        Sheet s = sheet("To that come, for all, LEFT and TOP.");
        int moved = s.make(0, "block left 30 top -40 height 10");
        int inner = s.make(moved, "block left -1 top 2 height 3");
        int free = s.make(moved, "block free 1 left 5 top 6");
        int next = s.make(0, "block height 4");
        s.layout(20, 20, 14);
        s.place(moved, 30, -40);
        s.place(inner, 29, -38);
        s.place(free, 35, -34);
        s.place(next, 0, 10);
    }

    private static void movedFarthest() {
        Sheet s = sheet("LEFT and TOP: -500 .. 500");
        s.change(0, "left -500 top 500");
        for (int depth = 1; depth <= 9; depth++) {
            s.make(depth - 1, "block left -500 top 500");
        }
        s.layout(20, 20, 0);
        s.place(9, -5000, 5000);
    }

    private static void movedInEveryParent() {
        Sheet s = sheet("To that come, for all, LEFT and TOP.");
        int flex = s.make(0, "flex");
        int a = s.make(flex, "block width 10 height 10 left 3 top 4");
        int b = s.make(flex, "block width 10 height 10");
        int table = s.make(0, "table");
        int row = s.make(table, "block left 5 top 6");
        int cell = s.make(row, "block height 10 words 1 left 7 top 8");
        int next = s.make(row, "block height 10 words 1");
        int below = s.make(table, "block");
        s.layout(100, 20, 20);
        s.place(a, 3, 4);
        s.place(b, 10, 0);
        s.place(row, 5, 16);
        s.place(cell, 12, 24);
        s.place(next, 6, 16);
        s.place(below, 0, 20);
    }
}
