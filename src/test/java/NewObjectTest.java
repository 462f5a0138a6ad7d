/** Promise 1: a new object. Promises 10 and 11: boxes and laidOut. */
public final class NewObjectTest {
    public static void main(String[] args) {
        Check check = new Check();
        startsWithBoxZeroAlone(check);
        countsOnlyWhatIsMade(check);
        staysLaidOutUntilSomethingChanges(check);
        keepsObjectsApart(check);
        check.end();
    }

    private static void startsWithBoxZeroAlone(Check check) {
        PageLayouter page = new PageLayouter();
        check.same("boxes of a new object", page.boxes(), 1);
        check.no("laidOut of a new object", page.laidOut());
        check.same("least of box 0", page.least(0), 0);
        check.same("most of box 0", page.most(0), 0);
        int[] first = {-1, -1, 0, 0, 0, 1, 0, 1, 0, 0, 0, 0};
        for (int property = 0; property < first.length; property++) {
            check.same("property " + property, page.set(0, property, first[property]), first[property]);
        }
        check.same("AUTO", PageLayouter.AUTO, -1);
        check.same("NONE", PageLayouter.NONE, -1);
        check.same("the first child's number", page.box(0, 0), 1);
    }

    private static void countsOnlyWhatIsMade(Check check) {
        PageLayouter page = new PageLayouter();
        page.box(0, 1);
        page.box(1, 2);
        check.same("boxes", page.boxes(), 3);
        check.fails("box of no parent", IndexOutOfBoundsException.class, () -> page.box(3, 0));
        check.fails("box of no sort", IllegalArgumentException.class, () -> page.box(0, -1));
        page.set(1, 6, 4);
        page.layout(10, 10);
        check.same("boxes", page.boxes(), 3);
    }

    private static void staysLaidOutUntilSomethingChanges(Check check) {
        PageLayouter page = new PageLayouter();
        page.layout(10, 10);
        check.yes("laidOut after layout", page.laidOut());
        page.set(0, 8, 0);
        check.yes("laidOut after a value that it had", page.laidOut());
        check.fails("a wrong value", IllegalArgumentException.class, () -> page.set(0, 8, 10));
        check.fails("a wrong page", IllegalArgumentException.class, () -> page.layout(-1, 10));
        check.fails("a wrong sort", IllegalArgumentException.class, () -> page.box(0, 3));
        page.least(0);
        page.most(0);
        page.hit(3, 3);
        check.yes("laidOut after calls that change nothing", page.laidOut());
        page.set(0, 9, 1);
        check.no("laidOut after another value, even one without effect", page.laidOut());
        page.layout(10, 10);
        page.box(0, 0);
        check.no("laidOut after a box was made", page.laidOut());
        check.fails("a wrong page", IllegalArgumentException.class, () -> page.layout(10, 5001));
        check.no("laidOut after a layout that threw", page.laidOut());
    }

    private static void keepsObjectsApart(Check check) {
        PageLayouter one = new PageLayouter();
        PageLayouter other = new PageLayouter();
        one.box(0, 0);
        one.set(0, 2, 9);
        one.layout(50, 50);
        check.same("boxes of the other", other.boxes(), 1);
        check.no("laidOut of the other", other.laidOut());
        check.same("margin of the other", other.set(0, 2, 0), 0);
    }
}
