import java.util.ArrayList;
import java.util.Arrays;
import java.util.List;

/**
 * A new page for one sentence of the document. Boxes are told in short texts: a sort and then pairs
 * of a property and its value, as "flex width 50% margin 3 height auto". It must know all values, so
 * boxes are made and changed by its own methods and only refused calls go to the page itself.
 */
final class Sheet {
    static final Class<IndexOutOfBoundsException> NO_INDEX = IndexOutOfBoundsException.class;
    static final Class<IllegalArgumentException> NO_ARGUMENT = IllegalArgumentException.class;
    static final Class<IllegalStateException> NO_STATE = IllegalStateException.class;
    static final Class<UnsupportedOperationException> NO_SUPPORT = UnsupportedOperationException.class;

    private static final List<String> SORTS = Arrays.asList("block", "flex", "table");
    private static final List<String> PROPERTIES = Arrays.asList("width", "height", "margin", "padding", "grow",
            "shrink", "words", "letters", "level", "free", "left", "top");
    private static final int[] FIRST = {-1, -1, 0, 0, 0, 1, 0, 1, 0, 0, 0, 0};

    final PageLayouter page = new PageLayouter();
    private final Check check;
    private final List<int[]> values = new ArrayList<>();

    Sheet(Check check, String sentence) {
        this.check = check;
        check.about(sentence);
        values.add(FIRST.clone());
    }

    int make(int parent, String text) {
        String[] words = text.split(" ");
        int box = box(parent, SORTS.indexOf(words[0]));
        changeBy(box, words, 1);
        return box;
    }

    int box(int parent, int sort) {
        int box = page.box(parent, sort);
        values.add(FIRST.clone());
        return box;
    }

    void change(int box, String text) {
        changeBy(box, text.split(" "), 0);
    }

    private void changeBy(int box, String[] words, int from) {
        for (int i = from; i + 1 < words.length; i += 2) {
            set(box, PROPERTIES.indexOf(words[i]), valueOf(words[i + 1]));
        }
    }

    int set(int box, int property, int value) {
        int before = page.set(box, property, value);
        values.get(box)[property] = value;
        return before;
    }

    private static int valueOf(String word) {
        if (word.equals("auto")) {
            return PageLayouter.AUTO;
        }
        if (word.endsWith("%")) {
            return 100000 + Integer.parseInt(word.substring(0, word.length() - 1));
        }
        return Integer.parseInt(word);
    }

    void same(String what, long got, long due) {
        check.same(what, got, due);
    }

    void sizes(int box, int least, int most) {
        check.same("least of box " + box, page.least(box), least);
        check.same("most of box " + box, page.most(box), most);
    }

    void layout(int width, int height, int due) {
        check.same("layout(" + width + ", " + height + ")", page.layout(width, height), due);
    }

    void frame(int box, int x, int y, int width, int height) {
        check.frame(page, box, x, y, width, height);
    }

    void place(int box, int x, int y) {
        check.same("x of box " + box, page.frame(box, 0), x);
        check.same("y of box " + box, page.frame(box, 1), y);
    }

    void width(int box, int due) {
        check.same("width of box " + box, page.frame(box, 2), due);
    }

    /** The widths of a box and of those made next after it. */
    void widths(int first, int... due) {
        for (int i = 0; i < due.length; i++) {
            width(first + i, due[i]);
        }
    }

    void height(int box, int due) {
        check.same("height of box " + box, page.frame(box, 3), due);
    }

    void columns(int table, int... due) {
        for (int k = 0; k < due.length; k++) {
            check.same("column " + k + " of box " + table, page.column(table, k), due[k]);
        }
        refused("column " + due.length, NO_INDEX, () -> page.column(table, due.length));
    }

    void hit(int x, int y, int due) {
        check.same("hit(" + x + ", " + y + ")", page.hit(x, y), due);
    }

    void laidOut(boolean due) {
        check.same("laidOut", page.laidOut() ? 1 : 0, due ? 1 : 0);
    }

    /** The call throws that and changes nothing that can be asked for. */
    void refused(String what, Class<? extends RuntimeException> due, Runnable call) {
        List<Integer> before = allAnswers();
        check.fails(what, due, call);
        check.yes(what + " changed nothing", before.equals(allAnswers()));
    }

    private List<Integer> allAnswers() {
        List<Integer> answers = new ArrayList<>();
        answers.add(page.boxes());
        answers.add(page.laidOut() ? 1 : 0);
        for (int box = 0; box < page.boxes(); box++) {
            answers.add(page.least(box));
            answers.add(page.most(box));
            for (int property = 0; property < FIRST.length; property++) {
                answers.add(page.set(box, property, values.get(box)[property]));
            }
            for (int what = 0; page.laidOut() && what < 4; what++) {
                answers.add(page.frame(box, what));
            }
            if (page.laidOut()) {
                addColumns(box, answers);
            }
        }
        return answers;
    }

    private void addColumns(int box, List<Integer> answers) {
        try {
            for (int k = 0; k < 40; k++) {
                answers.add(page.column(box, k));
            }
        } catch (IndexOutOfBoundsException e) {
            answers.add(-1);
        } catch (UnsupportedOperationException e) {
            answers.add(-2);
        }
    }
}
