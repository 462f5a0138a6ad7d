/** Promise 2: box. */
public final class BoxTest {
    public static void main(String[] args) {
        Check check = new Check();
        numbersInOrder(check);
        refusesWrongArguments(check);
        refusesTheFortyFirst(check);
        refusesTheTenthDepth(check);
        testsWhatIsSaidFirst(check);
        givesFirstValues(check);
        check.end();
    }

    private static void numbersInOrder(Check check) {
        PageLayouter page = new PageLayouter();
        check.same("box", page.box(0, 0), 1);
        check.same("box", page.box(1, 1), 2);
        check.same("box", page.box(0, 2), 3);
        check.same("box", page.box(1, 0), 4);
        Props.change(page, 4, Props.HEIGHT, 7);
        Props.change(page, 2, Props.HEIGHT, 3);
        page.layout(20, 20);
        check.frame(page, 4, 0, 3, 20, 7);
        check.frame(page, 3, 0, 10, 20, 0);
    }

    private static void refusesWrongArguments(Check check) {
        PageLayouter page = new PageLayouter();
        int[] noBoxes = {-1, 1, 40, Integer.MAX_VALUE, Integer.MIN_VALUE};
        for (int parent : noBoxes) {
            check.fails("box(" + parent + ", 0)", IndexOutOfBoundsException.class, () -> page.box(parent, 0));
        }
        int[] noSorts = {-1, 3, Integer.MAX_VALUE, Integer.MIN_VALUE};
        for (int sort : noSorts) {
            check.fails("box(0, " + sort + ")", IllegalArgumentException.class, () -> page.box(0, sort));
        }
        check.same("boxes", page.boxes(), 1);
    }

    private static void refusesTheFortyFirst(Check check) {
        PageLayouter page = new PageLayouter();
        for (int i = 1; i < 40; i++) {
            check.same("box", page.box(i % 3 == 2 ? 1 : 0, i % 3), i);
        }
        page.layout(5, 5);
        check.fails("the 41st box", IllegalStateException.class, () -> page.box(0, 0));
        check.same("boxes", page.boxes(), 40);
        check.yes("laidOut", page.laidOut());
    }

    private static void refusesTheTenthDepth(Check check) {
        PageLayouter page = new PageLayouter();
        for (int depth = 1; depth <= 9; depth++) {
            check.same("box", page.box(depth - 1, depth % 3), depth);
        }
        check.fails("a box of depth 10", IllegalStateException.class, () -> page.box(9, 0));
        check.same("boxes", page.boxes(), 10);
        check.same("another box of depth 9", page.box(8, 0), 10);
        check.fails("a box of depth 10", IllegalStateException.class, () -> page.box(10, 0));
    }

    private static void testsWhatIsSaidFirst(Check check) {
        PageLayouter page = new PageLayouter();
        for (int depth = 1; depth <= 9; depth++) {
            page.box(depth - 1, 0);
        }
        check.fails("no parent and no sort", IndexOutOfBoundsException.class, () -> page.box(10, 3));
        check.fails("no sort and too deep", IllegalArgumentException.class, () -> page.box(9, 3));
        for (int i = 10; i < 40; i++) {
            page.box(0, 0);
        }
        check.fails("no parent and too many", IndexOutOfBoundsException.class, () -> page.box(40, 0));
        check.fails("no sort and too many", IllegalArgumentException.class, () -> page.box(0, -1));
    }

    private static void givesFirstValues(Check check) {
        PageLayouter page = new PageLayouter();
        Props.change(page, 0, Props.MARGIN, 4, Props.SHRINK, 3, Props.LEFT, 5);
        int child = page.box(0, 2);
        int[] first = {-1, -1, 0, 0, 0, 1, 0, 1, 0, 0, 0, 0};
        for (int property = 0; property < first.length; property++) {
            check.same("property " + property, page.set(child, property, first[property]), first[property]);
        }
    }
}
