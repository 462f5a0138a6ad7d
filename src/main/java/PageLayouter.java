/**
 * Lays a tree of boxes out on a page and finds the topmost box at a point.
 *
 * A box is always made after its parent. So the boxes by falling number have every child before
 * its parent, and by rising number every parent before its children; no pass needs recursion.
 */
public final class PageLayouter {
    public static final int AUTO = -1;
    public static final int NONE = -1;

    private static final int WIDTH = 0;
    private static final int HEIGHT = 1;
    private static final int MARGIN = 2;
    private static final int PADDING = 3;
    private static final int GROW = 4;
    private static final int SHRINK = 5;
    private static final int WORDS = 6;
    private static final int LETTERS = 7;
    private static final int LEVEL = 8;
    private static final int FREE = 9;
    private static final int LEFT = 10;
    private static final int TOP = 11;

    private static final int PROPERTIES = 12;
    private static final int[] LOWEST_VALUES = {-1, -1, 0, 0, 0, 0, 0, 1, -9, 0, -500, -500};
    private static final int[] HIGHEST_VALUES = {2000, 2000, 100, 100, 9, 9, 50, 20, 9, 1, 500, 500};
    private static final int[] FIRST_VALUES = {-1, -1, 0, 0, 0, 1, 0, 1, 0, 0, 0, 0};
    private static final int NO_PERCENT = 100000;
    private static final int ALL_PERCENT = 100100;

    private static final int BLOCK = 0;
    private static final int FLEX = 1;
    private static final int TABLE = 2;
    private static final int ROW = 3;

    private static final int MOST_BOXES = 40;
    private static final int GREATEST_DEPTH = 9;
    private static final int GREATEST_PAGE = 5000;
    private static final int LINE_HEIGHT = 10;
    private static final int NOT_FIXED = -1;

    private final Box[] made;
    private final Columns columns;
    private int count;
    private boolean settled;

    public PageLayouter() {
        made = new Box[MOST_BOXES];
        made[0] = new Box(0, null, BLOCK);
        columns = new Columns();
        count = 1;
        settled = false;
    }

    public int box(int parent, int sort)
            throws IndexOutOfBoundsException, IllegalArgumentException, IllegalStateException {
        if (!exists(parent)) {
            throw new IndexOutOfBoundsException("there is no such parent");
        }
        if (sort < BLOCK || sort > TABLE) {
            throw new IllegalArgumentException("there is no such sort");
        }
        if (count >= MOST_BOXES || made[parent].depth >= GREATEST_DEPTH) {
            throw new IllegalStateException("there are too many boxes, or too many inside one another");
        }
        Box child = new Box(count, made[parent], sort);
        made[parent].append(child);
        made[count] = child;
        count++;
        child.findRole();
        settled = false;
        return child.number;
    }

    public int set(int box, int property, int value)
            throws IndexOutOfBoundsException, IllegalArgumentException {
        if (!exists(box)) {
            throw new IndexOutOfBoundsException("there is no such box");
        }
        if (property < 0 || property >= PROPERTIES || !isAllowed(property, value)) {
            throw new IllegalArgumentException("there is no such property, or it may not be that");
        }
        int before = made[box].values[property];
        if (value != before) {
            made[box].values[property] = value;
            settled = false;
            if (property == FREE) {
                findRoles();
            }
        }
        return before;
    }

    public int least(int box) throws IndexOutOfBoundsException {
        if (!exists(box)) {
            throw new IndexOutOfBoundsException("there is no such box");
        }
        findCores();
        return made[box].leastWidth();
    }

    public int most(int box) throws IndexOutOfBoundsException {
        if (!exists(box)) {
            throw new IndexOutOfBoundsException("there is no such box");
        }
        findCores();
        return made[box].mostWidth();
    }

    public int layout(int width, int height) throws IllegalArgumentException {
        if (width < 0 || width > GREATEST_PAGE || height < 0 || height > GREATEST_PAGE) {
            throw new IllegalArgumentException("there is no page of that size");
        }
        findCores();
        giveWidths(width);
        giveHeights(height);
        givePlaces();
        settled = true;
        return made[0].roomHeight();
    }

    public int frame(int box, int what)
            throws IndexOutOfBoundsException, IllegalArgumentException, IllegalStateException {
        if (!exists(box)) {
            throw new IndexOutOfBoundsException("there is no such box");
        }
        if (what < 0 || what > 3) {
            throw new IllegalArgumentException("a frame has no such number");
        }
        if (!settled) {
            throw new IllegalStateException("it is not laid out");
        }
        switch (what) {
            case 0:
                return made[box].x;
            case 1:
                return made[box].y;
            case 2:
                return made[box].frameWidth();
            default:
                return made[box].frameHeight();
        }
    }

    public int column(int box, int k)
            throws IndexOutOfBoundsException, UnsupportedOperationException, IllegalStateException {
        if (!exists(box)) {
            throw new IndexOutOfBoundsException("there is no such box");
        }
        if (made[box].kind != TABLE) {
            throw new UnsupportedOperationException("it is no table");
        }
        if (!settled) {
            throw new IllegalStateException("it is not laid out");
        }
        if (k < 0 || k >= made[box].columnCount) {
            throw new IndexOutOfBoundsException("there is no such column");
        }
        return columns.width[made[box].firstColumn + k];
    }

    public int hit(int x, int y) throws IllegalStateException {
        if (!settled) {
            throw new IllegalStateException("it is not laid out");
        }
        Box top = null;
        for (Box box = made[0]; box != null; box = box.nextInTree()) {
            if (box.covers(x, y) && (top == null || box.values[LEVEL] >= top.values[LEVEL])) {
                top = box;
            }
        }
        return top == null ? NONE : top.number;
    }

    public int boxes() {
        return count;
    }

    public boolean laidOut() {
        return settled;
    }

    private boolean exists(int number) {
        return number >= 0 && number < count;
    }

    private static boolean isAllowed(int property, int value) {
        if (property <= HEIGHT && isPercent(value)) {
            return value <= ALL_PERCENT;
        }
        return value >= LOWEST_VALUES[property] && value <= HIGHEST_VALUES[property];
    }

    private static boolean isPercent(int value) {
        return value >= NO_PERCENT;
    }

    private static boolean isSize(int value) {
        return value != AUTO && value < NO_PERCENT;
    }

    private static int percentOf(int whole, int value) {
        return whole * (value - NO_PERCENT) / 100;
    }

    private void findRoles() {
        for (int i = 0; i < count; i++) {
            made[i].findRole();
        }
    }

    private void findCores() {
        columns.clear();
        for (int i = count - 1; i >= 0; i--) {
            Cores.find(made[i], columns);
        }
    }

    private void giveWidths(int pageWidth) {
        made[0].width = Widths.inParent(made[0], pageWidth);
        for (int i = 0; i < count; i++) {
            if (made[i].kind == FLEX) {
                Flex.shareOut(made[i]);
            } else if (made[i].kind == TABLE) {
                columns.shareOut(made[i]);
            }
            Widths.giveOneByOne(made[i]);
        }
    }

    private void giveHeights(int pageHeight) {
        for (int i = 0; i < count; i++) {
            Heights.fix(made[i], pageHeight);
        }
        for (int i = count - 1; i >= 0; i--) {
            Heights.give(made[i]);
        }
    }

    private void givePlaces() {
        Box root = made[0];
        root.moveTo(root.margin(), root.margin());
        for (int i = 0; i < count; i++) {
            Places.giveChildren(made[i]);
        }
    }

    /** A box in the tree, with its properties and what the last pass over it found. */
    private static final class Box {
        final int number;
        final Box parent;
        final int sort;
        final int depth;
        final int[] values;
        Box firstChild;
        Box lastChild;
        Box nextSibling;
        int kind;
        boolean cell;
        int lesserCore;
        int greaterCore;
        int firstColumn;
        int columnCount;
        int width;
        int fixedHeight;
        int height;
        int x;
        int y;
        boolean open;

        Box(int number, Box parent, int sort) {
            this.number = number;
            this.parent = parent;
            this.sort = sort;
            depth = parent == null ? 0 : parent.depth + 1;
            values = FIRST_VALUES.clone();
            kind = sort;
        }

        void append(Box child) {
            if (lastChild == null) {
                firstChild = child;
            } else {
                lastChild.nextSibling = child;
            }
            lastChild = child;
        }

        /** The parent's role must be found before. */
        void findRole() {
            int around = parent == null || isFree() ? BLOCK : parent.kind;
            kind = around == TABLE ? ROW : sort;
            cell = around == ROW;
        }

        boolean isFree() {
            return parent != null && values[FREE] == 1;
        }

        Box firstInFlow() {
            Box child = firstChild;
            while (child != null && child.isFree()) {
                child = child.nextSibling;
            }
            return child;
        }

        Box nextInFlow() {
            Box sibling = nextSibling;
            while (sibling != null && sibling.isFree()) {
                sibling = sibling.nextSibling;
            }
            return sibling;
        }

        /** The box behind this one in the order in which a box stands before all inside it. */
        Box nextInTree() {
            if (firstChild != null) {
                return firstChild;
            }
            Box last = this;
            while (last != null && last.nextSibling == null) {
                last = last.parent;
            }
            return last == null ? null : last.nextSibling;
        }

        int margin() {
            return kind == ROW || cell ? 0 : values[MARGIN];
        }

        int padding() {
            return kind == ROW ? 0 : values[PADDING];
        }

        int wantedWidth() {
            return kind == ROW || cell ? AUTO : values[WIDTH];
        }

        int wantedHeight() {
            return kind == ROW ? AUTO : values[HEIGHT];
        }

        int leastWidth() {
            return isSize(wantedWidth()) ? wantedWidth() : lesserCore;
        }

        int mostWidth() {
            return isSize(wantedWidth()) ? wantedWidth() : greaterCore;
        }

        int edges() {
            return 2 * (padding() + margin());
        }

        int frameWidth() {
            return width + 2 * padding();
        }

        int frameHeight() {
            return height + 2 * padding();
        }

        int roomWidth() {
            return width + edges();
        }

        int roomHeight() {
            return height + edges();
        }

        void moveTo(int left, int top) {
            x = left + values[LEFT];
            y = top + values[TOP];
        }

        boolean covers(int pointX, int pointY) {
            return pointX >= x && pointX < x + frameWidth() && pointY >= y && pointY < y + frameHeight();
        }
    }

    /** Finds the two cores of a box, those of its children being known. */
    private static final class Cores {
        static void find(Box box, Columns columns) {
            if (box.kind == TABLE) {
                columns.measure(box);
            }
            if (box.firstInFlow() == null) {
                findByWords(box);
            } else if (box.kind == TABLE) {
                columns.findCores(box);
            } else if (box.kind == BLOCK) {
                findByGreatest(box);
            } else {
                findBySum(box);
            }
        }

        static void findByWords(Box box) {
            int words = box.values[WORDS];
            int letters = box.values[LETTERS];
            box.lesserCore = words == 0 ? 0 : letters;
            box.greaterCore = words == 0 ? 0 : words * letters + words - 1;
        }

        static void findByGreatest(Box block) {
            block.lesserCore = 0;
            block.greaterCore = 0;
            for (Box child = block.firstInFlow(); child != null; child = child.nextInFlow()) {
                block.lesserCore = Math.max(block.lesserCore, child.leastWidth() + child.edges());
                block.greaterCore = Math.max(block.greaterCore, child.mostWidth() + child.edges());
            }
        }

        static void findBySum(Box box) {
            box.lesserCore = 0;
            box.greaterCore = 0;
            for (Box child = box.firstInFlow(); child != null; child = child.nextInFlow()) {
                box.lesserCore += child.leastWidth() + child.edges();
                box.greaterCore += child.mostWidth() + child.edges();
            }
        }
    }

    /**
     * The columns of all tables, those of one table side by side. Each column has a cell of its
     * own, so there are never more columns than boxes.
     */
    private static final class Columns {
        final int[] least;
        final int[] most;
        final int[] width;
        int used;

        Columns() {
            least = new int[MOST_BOXES];
            most = new int[MOST_BOXES];
            width = new int[MOST_BOXES];
            used = 0;
        }

        void clear() {
            used = 0;
        }

        void measure(Box table) {
            table.firstColumn = used;
            for (Box row = table.firstInFlow(); row != null; row = row.nextInFlow()) {
                measureRow(row, table.firstColumn);
            }
            table.columnCount = used - table.firstColumn;
        }

        private void measureRow(Box row, int firstColumn) {
            int k = firstColumn;
            for (Box cell = row.firstInFlow(); cell != null && k < MOST_BOXES; cell = cell.nextInFlow()) {
                if (k == used) {
                    least[k] = 0;
                    most[k] = 0;
                    used++;
                }
                least[k] = Math.max(least[k], cell.leastWidth() + cell.edges());
                most[k] = Math.max(most[k], cell.mostWidth() + cell.edges());
                k++;
            }
        }

        void findCores(Box table) {
            table.lesserCore = sum(least, table);
            table.greaterCore = sum(most, table);
        }

        private static int sum(int[] sizes, Box table) {
            int sum = 0;
            for (int k = table.firstColumn; k < table.firstColumn + table.columnCount; k++) {
                sum += sizes[k];
            }
            return sum;
        }

        void shareOut(Box table) {
            int leastSum = sum(least, table);
            int mostSum = sum(most, table);
            if (mostSum <= table.width) {
                System.arraycopy(most, table.firstColumn, width, table.firstColumn, table.columnCount);
            } else if (leastSum >= table.width) {
                System.arraycopy(least, table.firstColumn, width, table.firstColumn, table.columnCount);
            } else {
                widen(table, table.width - leastSum, mostSum - leastSum);
            }
            giveRows(table);
        }

        /** Gives the columns their part of the space above LEAST; wanted, above 0, is up to MOST. */
        private void widen(Box table, int space, int wanted) {
            int end = table.firstColumn + table.columnCount;
            int left = space;
            for (int k = table.firstColumn; k < end; k++) {
                int more = (int) ((long) (most[k] - least[k]) * space / wanted);
                width[k] = least[k] + more;
                left -= more;
            }
            for (int k = table.firstColumn; k < end && left > 0; k++) {
                if (width[k] < most[k]) {
                    width[k]++;
                    left--;
                }
            }
        }

        private void giveRows(Box table) {
            int all = sum(width, table);
            for (Box row = table.firstInFlow(); row != null; row = row.nextInFlow()) {
                row.width = all;
                int k = table.firstColumn;
                for (Box cell = row.firstInFlow(); cell != null && k < used; cell = cell.nextInFlow()) {
                    cell.width = Math.max(0, width[k] - cell.edges());
                    k++;
                }
            }
        }
    }

    /** The widths that do not depend on those of the siblings. */
    private static final class Widths {
        static void giveOneByOne(Box parent) {
            for (Box child = parent.firstChild; child != null; child = child.nextSibling) {
                if (child.isFree()) {
                    child.width = ofFree(child, parent.width);
                } else if (parent.kind == BLOCK) {
                    child.width = inParent(child, parent.width);
                }
            }
        }

        static int inParent(Box box, int outer) {
            int wanted = box.wantedWidth();
            if (isSize(wanted)) {
                return wanted;
            }
            return isPercent(wanted) ? percentOf(outer, wanted) : Math.max(0, outer - box.edges());
        }

        static int ofFree(Box box, int outer) {
            int width = inParent(box, outer);
            if (box.wantedWidth() != AUTO) {
                return width;
            }
            return Math.min(Math.max(width, box.leastWidth()), box.mostWidth());
        }
    }

    /** Shares the width of a flex out among its children in flow. */
    private static final class Flex {
        static void shareOut(Box flex) {
            giveBases(flex);
            int space = spaceLeft(flex);
            if (space > 0) {
                grow(flex, space);
            } else if (space < 0) {
                shrink(flex);
            }
        }

        private static void giveBases(Box flex) {
            for (Box child = flex.firstInFlow(); child != null; child = child.nextInFlow()) {
                int wanted = child.wantedWidth();
                child.width = isPercent(wanted) ? percentOf(flex.width, wanted) : child.mostWidth();
            }
        }

        private static int spaceLeft(Box flex) {
            int space = flex.width;
            for (Box child = flex.firstInFlow(); child != null; child = child.nextInFlow()) {
                space -= child.roomWidth();
            }
            return space;
        }

        private static void grow(Box flex, int space) {
            int parts = 0;
            for (Box child = flex.firstInFlow(); child != null; child = child.nextInFlow()) {
                parts += child.values[GROW];
            }
            if (parts == 0) {
                return;
            }
            int left = space;
            for (Box child = flex.firstInFlow(); child != null; child = child.nextInFlow()) {
                int more = space * child.values[GROW] / parts;
                child.width += more;
                left -= more;
            }
            for (Box child = flex.firstInFlow(); child != null && left > 0; child = child.nextInFlow()) {
                if (child.values[GROW] > 0) {
                    child.width++;
                    left--;
                }
            }
        }

        /** Every round but the last one closes a child, so there are no more rounds than boxes. */
        private static void shrink(Box flex) {
            openChildren(flex);
            for (int round = 0; round < MOST_BOXES; round++) {
                int excess = -spaceLeft(flex);
                long weight = openWeight(flex);
                if (excess <= 0 || weight == 0) {
                    return;
                }
                if (!closeTooNarrow(flex, excess, weight)) {
                    narrowOpen(flex, excess, weight);
                    return;
                }
            }
        }

        private static void openChildren(Box flex) {
            for (Box child = flex.firstInFlow(); child != null; child = child.nextInFlow()) {
                child.open = weightOf(child) > 0;
            }
        }

        /** An open child still has its basis as its width. */
        private static long weightOf(Box child) {
            return (long) child.values[SHRINK] * child.width;
        }

        private static long openWeight(Box flex) {
            long weight = 0;
            for (Box child = flex.firstInFlow(); child != null; child = child.nextInFlow()) {
                if (child.open) {
                    weight += weightOf(child);
                }
            }
            return weight;
        }

        /** Tells whether a child was closed; excess and weight stay those of the round's beginning. */
        private static boolean closeTooNarrow(Box flex, int excess, long weight) {
            boolean closed = false;
            for (Box child = flex.firstInFlow(); child != null; child = child.nextInFlow()) {
                if (child.open && child.width - excess * weightOf(child) / weight < child.lesserCore) {
                    child.width = Math.min(child.width, child.lesserCore);
                    child.open = false;
                    closed = true;
                }
            }
            return closed;
        }

        private static void narrowOpen(Box flex, int excess, long weight) {
            int left = excess;
            for (Box child = flex.firstInFlow(); child != null; child = child.nextInFlow()) {
                if (child.open) {
                    int loss = (int) (excess * weightOf(child) / weight);
                    child.width -= loss;
                    left -= loss;
                }
            }
            for (Box child = flex.firstInFlow(); child != null && left > 0; child = child.nextInFlow()) {
                if (child.open && child.width > child.lesserCore) {
                    child.width--;
                    left--;
                }
            }
        }
    }

    /**
     * Gives boxes their heights. A row counts as a flex here and a table as a block: the margins
     * that would make a difference count as 0 for rows and cells.
     */
    private static final class Heights {
        /** The parent's fixed height must be known. */
        static void fix(Box box, int pageHeight) {
            int outer = box.parent == null ? pageHeight : box.parent.fixedHeight;
            int wanted = box.wantedHeight();
            if (isSize(wanted)) {
                box.fixedHeight = wanted;
            } else if (isPercent(wanted) && outer != NOT_FIXED) {
                box.fixedHeight = percentOf(outer, wanted);
            } else {
                box.fixedHeight = NOT_FIXED;
            }
        }

        /** The children's heights must be known. */
        static void give(Box box) {
            box.height = box.fixedHeight == NOT_FIXED ? byContents(box) : box.fixedHeight;
            if (box.kind == FLEX || box.kind == ROW) {
                stretchChildren(box);
            }
        }

        private static int byContents(Box box) {
            if (box.firstInFlow() == null) {
                return ofLines(box);
            }
            return box.kind == FLEX || box.kind == ROW ? greatestRoom(box) : ofStack(box);
        }

        private static int ofLines(Box box) {
            int wordsOfLine = Math.max(1, (box.width + 1) / (box.values[LETTERS] + 1));
            return LINE_HEIGHT * ((box.values[WORDS] + wordsOfLine - 1) / wordsOfLine);
        }

        private static int greatestRoom(Box box) {
            int greatest = 0;
            for (Box child = box.firstInFlow(); child != null; child = child.nextInFlow()) {
                greatest = Math.max(greatest, child.roomHeight());
            }
            return greatest;
        }

        private static int ofStack(Box box) {
            int height = 0;
            int marginAbove = 0;
            for (Box child = box.firstInFlow(); child != null; child = child.nextInFlow()) {
                height += Math.max(marginAbove, child.margin()) + child.frameHeight();
                marginAbove = child.margin();
            }
            return height + marginAbove;
        }

        private static void stretchChildren(Box box) {
            for (Box child = box.firstInFlow(); child != null; child = child.nextInFlow()) {
                if (child.wantedHeight() == AUTO) {
                    child.height = Math.max(0, box.height - child.edges());
                }
            }
        }
    }

    /** Gives the children of a box their places, its own being known; see Heights for the kinds. */
    private static final class Places {
        static void giveChildren(Box parent) {
            int left = parent.x + parent.padding();
            int top = parent.y + parent.padding();
            if (parent.kind == FLEX || parent.kind == ROW) {
                standBeside(parent, left, top);
            } else {
                standBelow(parent, left, top);
            }
            for (Box child = parent.firstChild; child != null; child = child.nextSibling) {
                if (child.isFree()) {
                    child.moveTo(left + child.margin(), top + child.margin());
                }
            }
        }

        private static void standBeside(Box parent, int left, int top) {
            int x = left;
            for (Box child = parent.firstInFlow(); child != null; child = child.nextInFlow()) {
                child.moveTo(x + child.margin(), top + child.margin());
                x += child.roomWidth();
            }
        }

        private static void standBelow(Box parent, int left, int top) {
            int y = top;
            int marginAbove = 0;
            for (Box child = parent.firstInFlow(); child != null; child = child.nextInFlow()) {
                y += Math.max(marginAbove, child.margin());
                child.moveTo(left + child.margin(), y);
                y += child.frameHeight();
                marginAbove = child.margin();
            }
        }
    }
}
