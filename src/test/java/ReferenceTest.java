import java.util.Random;

/** All promises: the program and the second one answer alike on many made-up trees. */
public final class ReferenceTest {
    private static final int RUNS = 4000;
    private static final int[] LOWEST = {-1, -1, 0, 0, 0, 0, 0, 1, -9, 0, -500, -500};
    private static final int[] HIGHEST = {2000, 2000, 100, 100, 9, 9, 50, 20, 9, 1, 500, 500};

    private final Check check;
    private final Random random;
    private final PageLayouter page = new PageLayouter();
    private final Reference reference = new Reference();
    private final int seed;

    private ReferenceTest(Check check, int seed) {
        this.check = check;
        this.seed = seed;
        random = new Random(seed);
    }

    public static void main(String[] args) {
        Check check = new Check();
        for (int seed = 0; seed < RUNS; seed++) {
            new ReferenceTest(check, seed).run();
        }
        check.end();
    }

    private void run() {
        int boxes = random.nextInt(40);
        int tables = random.nextInt(4);
        for (int i = 0; i < boxes; i++) {
            makeBox(tables);
        }
        for (int round = 0; round < 3; round++) {
            int changes = random.nextInt(3 * page.boxes() + 1);
            for (int i = 0; i < changes; i++) {
                changeValue();
            }
            compareSizes();
            for (int pages = 0; pages < 3; pages++) {
                compareLayout();
            }
        }
    }

    private String name(String what) {
        return "seed " + seed + ": " + what;
    }

    private void makeBox(int tables) {
        int parent = random.nextBoolean() ? page.boxes() - 1 : random.nextInt(page.boxes());
        int depth = reference.depth(reference.nodes.get(parent));
        if (depth >= 9) {
            check.fails(name("too deep"), IllegalStateException.class, () -> page.box(parent, 0));
            return;
        }
        int sort = random.nextInt(4) < tables ? Props.TABLE : random.nextInt(3);
        check.same(name("box"), page.box(parent, sort), reference.box(parent, sort));
    }

    private void changeValue() {
        int box = random.nextInt(page.boxes());
        int property = random.nextInt(12);
        int value = valueOf(property);
        int[] values = reference.nodes.get(box).value;
        check.same(name("set"), page.set(box, property, value), values[property]);
        values[property] = value;
    }

    private int valueOf(int property) {
        int kind = random.nextInt(10);
        if (property <= Props.HEIGHT && kind < 3) {
            return Props.PERCENT + random.nextInt(101);
        }
        if (property <= Props.HEIGHT && kind < 6) {
            return -1;
        }
        if (property == Props.FREE) {
            return kind < 2 ? 1 : 0;
        }
        int highest = kind < 9 ? Math.min(HIGHEST[property], 60) : HIGHEST[property];
        return LOWEST[property] + random.nextInt(highest - LOWEST[property] + 1);
    }

    private void compareSizes() {
        for (Reference.Node node : reference.nodes) {
            check.same(name("least"), page.least(node.number), reference.size(node, true));
            check.same(name("most"), page.most(node.number), reference.size(node, false));
        }
    }

    private void compareLayout() {
        int width = random.nextInt(4) == 0 ? random.nextInt(5001) : random.nextInt(300);
        int height = random.nextInt(4) == 0 ? random.nextInt(5001) : random.nextInt(300);
        check.same(name("layout"), page.layout(width, height), reference.layout(width, height));
        for (Reference.Node node : reference.nodes) {
            check.same(name("x"), page.frame(node.number, 0), node.x);
            check.same(name("y"), page.frame(node.number, 1), node.y);
            check.same(name("width"), page.frame(node.number, 2), node.w + 2 * node.padding());
            check.same(name("height"), page.frame(node.number, 3), node.h + 2 * node.padding());
            compareColumns(node);
        }
        for (int i = 0; i < 20; i++) {
            Reference.Node near = reference.nodes.get(random.nextInt(page.boxes()));
            int x = near.x + random.nextInt(near.w + 2 * near.padding() + 2) - 1;
            int y = near.y + random.nextInt(near.h + 2 * near.padding() + 2) - 1;
            check.same(name("hit"), page.hit(x, y), reference.hit(x, y));
        }
    }

    private void compareColumns(Reference.Node node) {
        if (!node.table()) {
            check.fails(name("no table"), UnsupportedOperationException.class, () -> page.column(node.number, 0));
            return;
        }
        int count = node.columnWidths.length;
        for (int k = 0; k < count; k++) {
            check.same(name("column"), page.column(node.number, k), node.columnWidths[k]);
        }
        check.fails(name("no column"), IndexOutOfBoundsException.class, () -> page.column(node.number, count));
    }
}
