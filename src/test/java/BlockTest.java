/** Promises 6 and 7: layout and frame, of blocks, words, fixed heights and free boxes. */
public final class BlockTest {
    private static final Check CHECK = new Check();

    public static void main(String[] args) {
        answersTheRoomOfBoxZero();
        refusesWrongArguments();
        givesWidthsInBlocks();
        breaksWordsIntoLines();
        joinsMargins();
        fixesHeights();
        movesBoxesWithAllInside();
        placesFreeBoxes();
        CHECK.end();
    }

    private static void answersTheRoomOfBoxZero() {
        PageLayouter page = new PageLayouter();
        Props.change(page, 0, Props.MARGIN, 3, Props.PADDING, 2, Props.LEFT, 10, Props.TOP, -20);
        CHECK.same("layout", page.layout(100, 50), 10);
        CHECK.frame(page, 0, 13, -17, 94, 4);
        page.set(0, Props.HEIGHT, Props.PERCENT + 50);
        CHECK.same("layout", page.layout(5, 51), 35);
        CHECK.frame(page, 0, 13, -17, 4, 29);
        page.set(0, Props.WIDTH, Props.PERCENT + 33);
        CHECK.same("layout", page.layout(5000, 5000), 2510);
        CHECK.frame(page, 0, 13, -17, 1654, 2504);
        CHECK.same("layout", page.layout(0, 0), 10);
        CHECK.frame(page, 0, 13, -17, 4, 4);
    }

    private static void refusesWrongArguments() {
        PageLayouter page = new PageLayouter();
        int[] wrong = {-1, 5001, Integer.MAX_VALUE, Integer.MIN_VALUE};
        for (int size : wrong) {
            CHECK.fails("a wrong width", IllegalArgumentException.class, () -> page.layout(size, 0));
            CHECK.fails("a wrong height", IllegalArgumentException.class, () -> page.layout(0, size));
        }
        CHECK.fails("not laid out", IllegalStateException.class, () -> page.frame(0, 0));
        CHECK.fails("no number, not laid out", IllegalArgumentException.class, () -> page.frame(0, 4));
        CHECK.fails("no box, no number", IndexOutOfBoundsException.class, () -> page.frame(1, 4));
        page.layout(8, 9);
        CHECK.fails("a wrong page", IllegalArgumentException.class, () -> page.layout(5001, 9));
        CHECK.frame(page, 0, 0, 0, 8, 0);
        for (int what : new int[] {-1, 4, Integer.MAX_VALUE, Integer.MIN_VALUE}) {
            CHECK.fails("no number", IllegalArgumentException.class, () -> page.frame(0, what));
        }
        for (int box : new int[] {-1, 1, 40, Integer.MAX_VALUE, Integer.MIN_VALUE}) {
            CHECK.fails("no box", IndexOutOfBoundsException.class, () -> page.frame(box, 0));
        }
        page.set(0, Props.TOP, 1);
        CHECK.fails("no longer laid out", IllegalStateException.class, () -> page.frame(0, 0));
    }

    private static void givesWidthsInBlocks() {
        PageLayouter page = new PageLayouter();
        page.set(0, Props.PADDING, 10);
        int auto = Props.make(page, 0, 0, Props.MARGIN, 4, Props.PADDING, 3);
        int size = Props.make(page, 0, 0, Props.WIDTH, 500, Props.PADDING, 1);
        int part = Props.make(page, 0, 0, Props.WIDTH, Props.PERCENT + 33, Props.PADDING, 2);
        int narrow = Props.make(page, 0, 0, Props.MARGIN, 100, Props.WORDS, 1, Props.LETTERS, 9);
        page.layout(120, 0);
        CHECK.frame(page, 0, 0, 0, 120, 250);
        CHECK.frame(page, auto, 14, 14, 92, 6);
        CHECK.frame(page, size, 10, 24, 502, 2);
        CHECK.frame(page, part, 10, 26, 37, 4);
        CHECK.frame(page, narrow, 110, 130, 0, 10);
    }

    private static void breaksWordsIntoLines() {
        PageLayouter page = new PageLayouter();
        Props.change(page, 0, Props.WORDS, 7, Props.LETTERS, 4);
        int[][] rows = {{0, 70}, {8, 70}, {9, 40}, {13, 40}, {14, 30}, {19, 20}, {33, 20}, {34, 10}, {999, 10}};
        for (int[] row : rows) {
            CHECK.same("height at width " + row[0], page.layout(row[0], 0), row[1]);
        }
        page.set(0, Props.WORDS, 0);
        CHECK.same("height without words", page.layout(100, 0), 0);
    }

    private static void joinsMargins() {
        PageLayouter page = new PageLayouter();
        page.set(0, Props.WORDS, 50);
        int a = Props.make(page, 0, 0, Props.MARGIN, 5, Props.HEIGHT, 10);
        int b = Props.make(page, 0, 0, Props.MARGIN, 9, Props.HEIGHT, 20, Props.PADDING, 1);
        int c = Props.make(page, 0, 0, Props.MARGIN, 2, Props.HEIGHT, 0);
        CHECK.same("layout", page.layout(100, 0), 5 + 10 + 9 + 22 + 9 + 0 + 2);
        CHECK.frame(page, a, 5, 5, 90, 10);
        CHECK.frame(page, b, 9, 24, 82, 22);
        CHECK.frame(page, c, 2, 55, 96, 0);
        page.set(b, Props.FREE, 1);
        CHECK.same("layout", page.layout(100, 0), 5 + 10 + 5 + 0 + 2);
        CHECK.frame(page, c, 2, 20, 96, 0);
        CHECK.frame(page, b, 9, 9, 2, 22);
    }

    private static void fixesHeights() {
        PageLayouter page = new PageLayouter();
        page.set(0, Props.HEIGHT, Props.PERCENT + 50);
        int half = Props.make(page, 0, 0, Props.HEIGHT, Props.PERCENT + 33);
        int inner = Props.make(page, half, 0, Props.HEIGHT, Props.PERCENT + 50, Props.PADDING, 1);
        int auto = page.box(0, 0);
        int loose = Props.make(page, auto, 0, Props.HEIGHT, Props.PERCENT + 50, Props.WORDS, 2);
        int size = Props.make(page, auto, 0, Props.HEIGHT, 40);
        int inSize = Props.make(page, size, 0, Props.HEIGHT, Props.PERCENT + 100, Props.FREE, 1);
        CHECK.same("layout", page.layout(10, 201), 100);
        CHECK.frame(page, half, 0, 0, 10, 33);
        CHECK.frame(page, inner, 0, 0, 10, 18);
        CHECK.frame(page, auto, 0, 33, 10, 50);
        CHECK.frame(page, loose, 0, 33, 10, 10);
        CHECK.frame(page, size, 0, 43, 10, 40);
        CHECK.frame(page, inSize, 0, 43, 0, 40);
    }

    private static void movesBoxesWithAllInside() {
        PageLayouter page = new PageLayouter();
        int moved = Props.make(page, 0, 0, Props.LEFT, 500, Props.TOP, -500, Props.HEIGHT, 10);
        int inside = Props.make(page, moved, 0, Props.LEFT, -3, Props.TOP, 2, Props.HEIGHT, 4);
        int below = Props.make(page, 0, 0, Props.HEIGHT, 5);
        CHECK.same("layout", page.layout(30, 0), 15);
        CHECK.frame(page, moved, 500, -500, 30, 10);
        CHECK.frame(page, inside, 497, -498, 30, 4);
        CHECK.frame(page, below, 0, 10, 30, 5);
    }

    private static void placesFreeBoxes() {
        PageLayouter page = new PageLayouter();
        Props.change(page, 0, Props.PADDING, 5);
        Props.make(page, 0, 0, Props.HEIGHT, 60);
        int free = Props.make(page, 0, 0, Props.FREE, 1, Props.WORDS, 4, Props.LETTERS, 4,
                Props.MARGIN, 3, Props.PADDING, 2, Props.LEFT, 1, Props.TOP, 7);
        CHECK.same("layout", page.layout(100, 0), 70);
        CHECK.frame(page, free, 9, 15, 23, 14);
        page.layout(28, 0);
        CHECK.frame(page, free, 9, 15, 12, 44);
        page.layout(5, 0);
        CHECK.frame(page, free, 9, 15, 8, 44);
        page.set(free, Props.WIDTH, Props.PERCENT + 100);
        page.layout(100, 0);
        CHECK.frame(page, free, 9, 15, 94, 14);
        page.set(free, Props.WIDTH, 1);
        page.layout(100, 0);
        CHECK.frame(page, free, 9, 15, 5, 44);
    }
}
