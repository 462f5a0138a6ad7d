/** Promises 1, 2, 3, 6, 7, 10 and 11: one test for each sentence that names an edge of a call. */
public final class CallEdgeTest {
    private static final Check CHECK = new Check();
    private static final int[] LOWEST = {-1, -1, 0, 0, 0, 0, 0, 1, -9, 0, -500, -500};

    public static void main(String[] args) {
        newObject();
        boxIsTheLastChild();
        boxWithoutParent();
        boxOfNoSort();
        boxTooMany();
        boxOrder();
        setAnswersWhatItWas();
        setOfNoBox();
        setOfNoProperty();
        setOrder();
        layoutAnswersTheRoom();
        layoutPages();
        laidOutUntilABoxIsMade();
        laidOutUntilAnotherValue();
        laidOutWithTheSameValue();
        valueThereAndBack();
        layoutAgain();
        frameNumbers();
        frameOfNoBox();
        frameOfNothing();
        frameNotLaidOut();
        frameOrder();
        boxesCounts();
        laidOutTells();
        refusedCallsKeepTheLayout();
        objectsApart();
        fiveHundredAndTwelveCalls();
        CHECK.end();
    }

    private static Sheet sheet(String sentence) {
        return new Sheet(CHECK, sentence);
    }

    private static void newObject() {
        Sheet s = sheet("Box 0 alone; not laid out.");
        s.same("boxes", s.page.boxes(), 1);
        s.laidOut(false);
        s.sizes(0, 0, 0);
        s.refused("frame", Sheet.NO_STATE, () -> s.page.frame(0, 0));
        s.refused("hit", Sheet.NO_STATE, () -> s.page.hit(0, 0));
        s.refused("column", Sheet.NO_SUPPORT, () -> s.page.column(0, 0));
        s.refused("box 1", Sheet.NO_INDEX, () -> s.page.least(1));
        s.layout(0, 0, 0);
        s.frame(0, 0, 0, 0, 0);
    }

    private static void boxIsTheLastChild() {
        Sheet s = sheet("Makes a box as the last child of parent. Answers its number.");
        s.same("box", s.make(0, "block height 1"), 1);
        s.same("box", s.make(0, "block"), 2);
        s.same("box", s.make(2, "block height 2"), 3);
        s.same("box", s.make(0, "block height 4"), 4);
        s.same("box", s.make(2, "block height 8"), 5);
        s.layout(9, 9, 15);
        s.place(4, 0, 11);
        s.place(5, 0, 3);
    }

    private static void boxWithoutParent() {
        Sheet s = sheet("IndexOutOfBoundsException if there is no box parent");
        s.make(0, "block");
        for (int parent : new int[] {-1, 2, 39, 40, Integer.MAX_VALUE, Integer.MIN_VALUE}) {
            s.refused("box(" + parent + ", 0)", Sheet.NO_INDEX, () -> s.page.box(parent, 0));
        }
        s.same("the next box", s.make(1, "block"), 2);
    }

    private static void boxOfNoSort() {
        Sheet s = sheet("IllegalArgumentException if sort is not 0, 1 or 2");
        for (int sort : new int[] {-1, 3, Integer.MAX_VALUE, Integer.MIN_VALUE}) {
            s.refused("box(0, " + sort + ")", Sheet.NO_ARGUMENT, () -> s.page.box(0, sort));
        }
        for (int sort = 0; sort <= 2; sort++) {
            s.same("box", s.box(0, sort), sort + 1);
        }
    }

    private static void boxTooMany() {
        Sheet s = sheet("IllegalStateException if there are 40 boxes, or parent has the depth 9");
        for (int i = 1; i <= 9; i++) {
            s.make(i - 1, "block");
        }
        s.refused("depth 10", Sheet.NO_STATE, () -> s.page.box(9, 0));
        for (int i = 10; i <= 39; i++) {
            s.same("box", s.make(8, "block"), i);
        }
        for (int parent : new int[] {0, 8, 9, 39}) {
            s.refused("a box too many", Sheet.NO_STATE, () -> s.page.box(parent, 0));
        }
        s.same("boxes", s.page.boxes(), 40);
    }

    private static void boxOrder() {
        Sheet s = sheet("What a call says first is tested first. (box)");
        s.refused("no parent, no sort", Sheet.NO_INDEX, () -> s.page.box(1, 3));
        for (int i = 1; i <= 9; i++) {
            s.make(i - 1, "block");
        }
        s.refused("no sort, depth 10", Sheet.NO_ARGUMENT, () -> s.page.box(9, 3));
        for (int i = 10; i <= 39; i++) {
            s.make(0, "block");
        }
        s.refused("no sort, 41 boxes", Sheet.NO_ARGUMENT, () -> s.page.box(0, -1));
        s.refused("no parent, 41 boxes", Sheet.NO_INDEX, () -> s.page.box(40, 0));
        s.refused("no parent, no sort, 41 boxes", Sheet.NO_INDEX, () -> s.page.box(-1, 3));
    }

    private static void setAnswersWhatItWas() {
        Sheet s = sheet("A property of a box becomes a value. Answers what it was.");
        s.make(0, "block");
        for (int property = 0; property < LOWEST.length; property++) {
            int other = LOWEST[property] + 1;
            s.set(1, property, LOWEST[property]);
            s.same("set", s.set(1, property, other), LOWEST[property]);
            s.same("set", s.set(1, property, other), other);
            s.same("set", s.set(1, property, LOWEST[property]), other);
        }
        s.refused("a value that it may not have", Sheet.NO_ARGUMENT, () -> s.page.set(0, 6, 51));
        s.same("set after a refused one", s.set(0, 6, 50), 0);
    }

    private static void setOfNoBox() {
        Sheet s = sheet("IndexOutOfBoundsException if there is no such box (set)");
        s.make(0, "block");
        for (int box : new int[] {-1, 2, 39, 40, Integer.MAX_VALUE, Integer.MIN_VALUE}) {
            s.refused("set(" + box + ", 6, 1)", Sheet.NO_INDEX, () -> s.page.set(box, 6, 1));
        }
    }

    private static void setOfNoProperty() {
        Sheet s = sheet("IllegalArgumentException if there is no such property");
        for (int property : new int[] {-1, 12, 13, Integer.MAX_VALUE, Integer.MIN_VALUE}) {
            for (int value : new int[] {-1, 0, 1, 100000}) {
                s.refused("property " + property, Sheet.NO_ARGUMENT, () -> s.page.set(0, property, value));
            }
        }
    }

    private static void setOrder() {
        Sheet s = sheet("What a call says first is tested first. (set)");
        s.refused("no box, no property", Sheet.NO_INDEX, () -> s.page.set(1, 12, 0));
        s.refused("no box, no value", Sheet.NO_INDEX, () -> s.page.set(-1, 0, 2001));
        s.refused("no property, no value", Sheet.NO_ARGUMENT, () -> s.page.set(0, -1, Integer.MAX_VALUE));
    }

    private static void layoutAnswersTheRoom() {
        Sheet s = sheet("Answers the height of the room of box 0.");
        s.change(0, "padding 3 margin 5 words 2 letters 2 top 100");
        s.layout(50, 50, 10 + 6 + 10);
        s.change(0, "height 7");
        s.layout(50, 50, 7 + 6 + 10);
        s.change(0, "height auto");
        s.make(0, "block height 1 margin 2 top 400");
        s.make(0, "block free 1 height 300");
        s.layout(50, 50, 5 + 6 + 10);
    }

    private static void layoutPages() {
        Sheet s = sheet("IllegalArgumentException if width or height is not 0 .. 5000.");
        s.change(0, "height 100%");
        int[] never = {-1, 5001, Integer.MAX_VALUE, Integer.MIN_VALUE};
        for (int size : never) {
            s.refused("width " + size, Sheet.NO_ARGUMENT, () -> s.page.layout(size, 7));
            s.refused("height " + size, Sheet.NO_ARGUMENT, () -> s.page.layout(7, size));
            s.refused("both " + size, Sheet.NO_ARGUMENT, () -> s.page.layout(size, size));
        }
        s.laidOut(false);
        for (int size : new int[] {0, 1, 4999, 5000}) {
            s.layout(size, 5000 - size, 5000 - size);
            s.frame(0, 0, 0, size, 5000 - size);
        }
        for (int size : never) {
            s.refused("width " + size, Sheet.NO_ARGUMENT, () -> s.page.layout(size, 7));
            s.refused("height " + size, Sheet.NO_ARGUMENT, () -> s.page.layout(7, size));
        }
        s.frame(0, 0, 0, 5000, 0);
    }

    private static void laidOutUntilABoxIsMade() {
        Sheet s = sheet("they are LAID OUT from then on, until a box is made");
        s.page.layout(10, 10);
        s.laidOut(true);
        s.make(0, "block");
        s.laidOut(false);
        s.refused("frame", Sheet.NO_STATE, () -> s.page.frame(0, 0));
        s.page.layout(10, 10);
        s.laidOut(true);
        s.frame(1, 0, 0, 10, 0);
    }

    private static void laidOutUntilAnotherValue() {
        for (int property = 0; property < LOWEST.length; property++) {
            for (int box = 0; box < 2; box++) {
                Sheet s = sheet("or a property gets another value than it had (" + property + ")");
                s.make(0, "block");
                s.page.layout(10, 10);
                s.set(box, property, LOWEST[property] + 3 - (property == 9 ? 2 : 0));
                s.laidOut(false);
            }
        }
    }

    private static void laidOutWithTheSameValue() {
        Sheet s = sheet("(One that gets the value it has leaves all laid out.)");
        s.change(0, "width 50% height 7 margin 1 padding 2 grow 3 shrink 4 words 5 letters 6 level 7 free 1 left 8");
        s.page.layout(50, 50);
        s.frame(0, 9, 1, 29, 11);
        s.change(0, "width 50% height 7 margin 1 padding 2 grow 3 shrink 4 words 5 letters 6 level 7 free 1 left 8");
        s.change(0, "top 0");
        s.laidOut(true);
        s.frame(0, 9, 1, 29, 11);
    }

    private static void valueThereAndBack() {
        Sheet s = sheet("until .. a property gets another value than it had");
        s.page.layout(10, 10);
        s.change(0, "level 1");
        s.change(0, "level 0");
        s.laidOut(false);
        s.refused("frame", Sheet.NO_STATE, () -> s.page.frame(0, 0));
    }

    private static void layoutAgain() {
        Sheet s = sheet("Lays all boxes out on a page");
        s.change(0, "words 4 letters 4");
        s.layout(9, 0, 20);
        s.layout(9, 0, 20);
        s.layout(4, 0, 40);
        s.frame(0, 0, 0, 4, 40);
        s.layout(9, 0, 20);
        s.frame(0, 0, 0, 9, 20);
        s.laidOut(true);
    }

    private static void frameNumbers() {
        Sheet s = sheet("Of a box: 0 x, 1 y, 2 the width and 3 the height of its frame.");
        s.change(0, "margin 9 left 1 top 2 padding 3 width 20 height 30");
        s.page.layout(0, 0);
        s.same("x", s.page.frame(0, 0), 10);
        s.same("y", s.page.frame(0, 1), 11);
        s.same("width", s.page.frame(0, 2), 26);
        s.same("height", s.page.frame(0, 3), 36);
    }

    private static void frameOfNoBox() {
        Sheet s = sheet("IndexOutOfBoundsException if there is no such box (frame)");
        s.make(0, "block");
        for (int round = 0; round < 2; round++) {
            for (int box : new int[] {-1, 2, 39, 40, Integer.MAX_VALUE, Integer.MIN_VALUE}) {
                s.refused("frame(" + box + ", 0)", Sheet.NO_INDEX, () -> s.page.frame(box, 0));
            }
            s.page.layout(10, 10);
        }
    }

    private static void frameOfNothing() {
        Sheet s = sheet("IllegalArgumentException if what is not 0 .. 3");
        for (int round = 0; round < 2; round++) {
            for (int what : new int[] {-1, 4, Integer.MAX_VALUE, Integer.MIN_VALUE}) {
                s.refused("frame(0, " + what + ")", Sheet.NO_ARGUMENT, () -> s.page.frame(0, what));
            }
            s.page.layout(10, 10);
        }
    }

    private static void frameNotLaidOut() {
        Sheet s = sheet("IllegalStateException if it is not laid out (frame)");
        for (int what = 0; what <= 3; what++) {
            int asked = what;
            s.refused("frame(0, " + what + ")", Sheet.NO_STATE, () -> s.page.frame(0, asked));
        }
        s.page.layout(10, 10);
        s.frame(0, 0, 0, 10, 0);
        s.change(0, "level 2");
        s.refused("frame(0, 3)", Sheet.NO_STATE, () -> s.page.frame(0, 3));
    }

    private static void frameOrder() {
        Sheet s = sheet("What a call says first is tested first. (frame)");
        s.refused("no box, no number, not laid out", Sheet.NO_INDEX, () -> s.page.frame(1, 4));
        s.refused("no number, not laid out", Sheet.NO_ARGUMENT, () -> s.page.frame(0, 4));
        s.refused("no box, not laid out", Sheet.NO_INDEX, () -> s.page.frame(-1, 0));
    }

    private static void boxesCounts() {
        Sheet s = sheet("How many boxes there are.");
        for (int i = 1; i <= 39; i++) {
            s.same("boxes", s.page.boxes(), i);
            s.make(0, "block");
        }
        s.same("boxes", s.page.boxes(), 40);
        s.refused("a 41st", Sheet.NO_STATE, () -> s.page.box(0, 0));
        s.same("boxes", s.page.boxes(), 40);
    }

    private static void laidOutTells() {
        Sheet s = sheet("Whether it is laid out.");
        s.laidOut(false);
        s.laidOut(false);
        s.page.layout(0, 0);
        s.laidOut(true);
        s.laidOut(true);
        s.change(0, "words 1");
        s.laidOut(false);
    }

    private static void refusedCallsKeepTheLayout() {
        Sheet s = sheet("A call that throws changes nothing.");
        int table = s.make(0, "table margin 2");
        s.make(s.make(table, "block"), "block words 5 letters 4");
        s.make(0, "block free 1 level 4 width 3 height 3");
        s.page.layout(20, 30);
        s.refused("box", Sheet.NO_INDEX, () -> s.page.box(9, 0));
        s.refused("box", Sheet.NO_ARGUMENT, () -> s.page.box(table, 9));
        s.refused("set", Sheet.NO_INDEX, () -> s.page.set(9, 0, 0));
        s.refused("set", Sheet.NO_ARGUMENT, () -> s.page.set(0, 20, 0));
        s.refused("set", Sheet.NO_ARGUMENT, () -> s.page.set(table, 9, 2));
        s.refused("least", Sheet.NO_INDEX, () -> s.page.least(9));
        s.refused("most", Sheet.NO_INDEX, () -> s.page.most(9));
        s.refused("layout", Sheet.NO_ARGUMENT, () -> s.page.layout(10, 5001));
        s.refused("frame", Sheet.NO_INDEX, () -> s.page.frame(9, 0));
        s.refused("frame", Sheet.NO_ARGUMENT, () -> s.page.frame(0, 9));
        s.refused("column", Sheet.NO_INDEX, () -> s.page.column(9, 0));
        s.refused("column", Sheet.NO_SUPPORT, () -> s.page.column(0, 0));
        s.refused("column", Sheet.NO_INDEX, () -> s.page.column(table, 1));
        s.laidOut(true);
        s.columns(table, 16);
        s.hit(1, 1, 4);
    }

    private static void objectsApart() {
        Sheet one = sheet("PageLayouter(): Box 0 alone; not laid out.");
        one.make(0, "block");
        one.change(0, "margin 9");
        one.page.layout(50, 50);
        Sheet other = sheet("PageLayouter(): Box 0 alone; not laid out.");
        other.same("boxes", other.page.boxes(), 1);
        other.laidOut(false);
        other.same("margin", other.set(0, 2, 9), 0);
        other.make(0, "table");
        one.laidOut(true);
        one.frame(1, 9, 9, 32, 0);
    }

    private static void fiveHundredAndTwelveCalls() {
        CHECK.about("An object is used for at most 512 calls after it has been made");
        PageLayouter page = new PageLayouter();
        int calls = 0;
        for (int i = 1; i <= 39; i++) {
            CHECK.same("box", page.box(0, i % 3), i);
            calls++;
        }
        for (int i = 0; calls < 510; i++) {
            page.set(i % 40, 1, i);
            calls++;
        }
        // the last of them set box b to 440 + b for b below 31, the others to 400 + b
        int due = 0;
        for (int b = 1; b < 40; b++) {
            due += b < 31 ? 440 + b : 400 + b;
        }
        page.set(0, 1, -1);
        CHECK.same("the 512th call", page.layout(10, 10), due);
    }
}
