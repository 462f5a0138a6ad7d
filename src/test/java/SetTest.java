/** Promise 3: set. */
public final class SetTest {
    private static final int[] LOWEST = {-1, -1, 0, 0, 0, 0, 0, 1, -9, 0, -500, -500};
    private static final int[] HIGHEST = {2000, 2000, 100, 100, 9, 9, 50, 20, 9, 1, 500, 500};

    public static void main(String[] args) {
        Check check = new Check();
        answersWhatItWas(check);
        takesTheEndsOfEachRange(check);
        takesPercentsOfWidthAndHeightAlone(check);
        refusesWrongArguments(check);
        changesNothingWhenItThrows(check);
        check.end();
    }

    private static void answersWhatItWas(Check check) {
        PageLayouter page = new PageLayouter();
        page.box(0, 0);
        check.same("set", page.set(1, Props.WORDS, 7), 0);
        check.same("set", page.set(1, Props.WORDS, 7), 7);
        check.same("set", page.set(1, Props.WORDS, 2), 7);
        check.same("set of another box", page.set(0, Props.WORDS, 2), 0);
        check.same("set of another property", page.set(1, Props.LETTERS, 2), 1);
    }

    private static void takesTheEndsOfEachRange(Check check) {
        PageLayouter page = new PageLayouter();
        for (int property = 0; property < LOWEST.length; property++) {
            int p = property;
            page.set(0, p, LOWEST[p]);
            check.same("from the lowest of " + p, page.set(0, p, HIGHEST[p]), LOWEST[p]);
            check.fails("below the lowest of " + p, IllegalArgumentException.class,
                    () -> page.set(0, p, LOWEST[p] - 1));
            check.fails("above the highest of " + p, IllegalArgumentException.class,
                    () -> page.set(0, p, HIGHEST[p] + 1));
            check.same("from the highest of " + p, page.set(0, p, HIGHEST[p]), HIGHEST[p]);
        }
    }

    private static void takesPercentsOfWidthAndHeightAlone(Check check) {
        PageLayouter page = new PageLayouter();
        for (int property = 0; property < LOWEST.length; property++) {
            int p = property;
            if (p <= Props.HEIGHT) {
                check.same("set to 0 percent", page.set(0, p, 100000), -1);
                check.same("set to 100 percent", page.set(0, p, 100100), 100000);
                check.same("set from 100 percent", page.set(0, p, 0), 100100);
            } else {
                check.fails("percent of " + p, IllegalArgumentException.class, () -> page.set(0, p, 100050));
            }
            int[] never = {99999, 100101, Integer.MAX_VALUE, Integer.MIN_VALUE};
            for (int value : never) {
                check.fails("set " + p + " to " + value, IllegalArgumentException.class,
                        () -> page.set(0, p, value));
            }
        }
    }

    private static void refusesWrongArguments(Check check) {
        PageLayouter page = new PageLayouter();
        int[] noBoxes = {-1, 1, 40, Integer.MAX_VALUE, Integer.MIN_VALUE};
        for (int box : noBoxes) {
            check.fails("no box", IndexOutOfBoundsException.class, () -> page.set(box, 0, 0));
            check.fails("no box, no property", IndexOutOfBoundsException.class, () -> page.set(box, 12, 0));
            check.fails("no box, no value", IndexOutOfBoundsException.class, () -> page.set(box, 0, -2));
        }
        int[] noProperties = {-1, 12, Integer.MAX_VALUE, Integer.MIN_VALUE};
        for (int property : noProperties) {
            check.fails("no property", IllegalArgumentException.class, () -> page.set(0, property, 0));
        }
    }

    private static void changesNothingWhenItThrows(Check check) {
        PageLayouter page = new PageLayouter();
        page.set(0, Props.MARGIN, 3);
        page.layout(10, 10);
        check.fails("a wrong value", IllegalArgumentException.class, () -> page.set(0, Props.MARGIN, 101));
        check.yes("laidOut", page.laidOut());
        check.same("margin", page.set(0, Props.MARGIN, 3), 3);
    }
}
