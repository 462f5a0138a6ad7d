/** The numbers of the properties and of the sorts, and short ways to make boxes. */
final class Props {
    static final int WIDTH = 0;
    static final int HEIGHT = 1;
    static final int MARGIN = 2;
    static final int PADDING = 3;
    static final int GROW = 4;
    static final int SHRINK = 5;
    static final int WORDS = 6;
    static final int LETTERS = 7;
    static final int LEVEL = 8;
    static final int FREE = 9;
    static final int LEFT = 10;
    static final int TOP = 11;

    static final int BLOCK = 0;
    static final int FLEX = 1;
    static final int TABLE = 2;

    static final int PERCENT = 100000;

    private Props() {
    }

    /** Makes a box; then come pairs of a property and its value. */
    static int make(PageLayouter page, int parent, int sort, int... pairs) {
        int box = page.box(parent, sort);
        change(page, box, pairs);
        return box;
    }

    static void change(PageLayouter page, int box, int... pairs) {
        for (int i = 0; i + 1 < pairs.length; i += 2) {
            page.set(box, pairs[i], pairs[i + 1]);
        }
    }
}
