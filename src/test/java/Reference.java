import java.util.ArrayList;
import java.util.Arrays;
import java.util.List;

/**
 * A second program for the same document, slow and recursive and written after its sentences, so
 * that the two can be held against one another. It has no checks of arguments.
 */
final class Reference {
    /** A box; w, h, x and y are what the last layout gave it. */
    static final class Node {
        final Node parent;
        final int number;
        final int sort;
        final List<Node> children = new ArrayList<>();
        final int[] value = {-1, -1, 0, 0, 0, 1, 0, 1, 0, 0, 0, 0};
        int w;
        int h;
        int x;
        int y;
        int[] columnWidths = {};

        Node(Node parent, int number, int sort) {
            this.parent = parent;
            this.number = number;
            this.sort = sort;
        }

        boolean free() {
            return parent != null && value[Props.FREE] == 1;
        }

        boolean row() {
            return parent != null && !free() && parent.table();
        }

        boolean cell() {
            return parent != null && !free() && parent.row();
        }

        boolean table() {
            return sort == Props.TABLE && !row();
        }

        boolean flex() {
            return sort == Props.FLEX && !row();
        }

        boolean block() {
            return sort == Props.BLOCK && !row();
        }

        int margin() {
            return row() || cell() ? 0 : value[Props.MARGIN];
        }

        int padding() {
            return row() ? 0 : value[Props.PADDING];
        }

        int width() {
            return row() || cell() ? -1 : value[Props.WIDTH];
        }

        int height() {
            return row() ? -1 : value[Props.HEIGHT];
        }

        List<Node> flow() {
            List<Node> flow = new ArrayList<>();
            for (Node child : children) {
                if (!child.free()) {
                    flow.add(child);
                }
            }
            return flow;
        }
    }

    final List<Node> nodes = new ArrayList<>();
    private int pageHeight;

    Reference() {
        nodes.add(new Node(null, 0, Props.BLOCK));
    }

    int box(int parent, int sort) {
        Node node = new Node(nodes.get(parent), nodes.size(), sort);
        node.parent.children.add(node);
        nodes.add(node);
        return node.number;
    }

    int depth(Node node) {
        return node.parent == null ? 0 : depth(node.parent) + 1;
    }

    int size(Node node, boolean least) {
        return node.width() >= 0 && node.width() <= 2000 ? node.width() : core(node, least);
    }

    int core(Node node, boolean least) {
        List<Node> flow = node.flow();
        if (flow.isEmpty()) {
            int words = node.value[Props.WORDS];
            int letters = node.value[Props.LETTERS];
            return words == 0 ? 0 : least ? letters : words * letters + words - 1;
        }
        if (node.table()) {
            return Arrays.stream(columnSizes(node, least)).sum();
        }
        int greatest = 0;
        int sum = 0;
        for (Node child : flow) {
            int room = size(child, least) + 2 * child.padding() + 2 * child.margin();
            greatest = Math.max(greatest, room);
            sum += room;
        }
        return node.block() ? greatest : sum;
    }

    int[] columnSizes(Node table, boolean least) {
        List<Integer> sizes = new ArrayList<>();
        for (Node row : table.flow()) {
            List<Node> cells = row.flow();
            for (int k = 0; k < cells.size(); k++) {
                int frame = size(cells.get(k), least) + 2 * cells.get(k).padding();
                if (k == sizes.size()) {
                    sizes.add(frame);
                } else {
                    sizes.set(k, Math.max(sizes.get(k), frame));
                }
            }
        }
        return sizes.stream().mapToInt(Integer::intValue).toArray();
    }

    int layout(int width, int height) {
        pageHeight = height;
        Node root = nodes.get(0);
        root.w = widthIn(root, width);
        widths(root);
        heights(root);
        root.x = root.margin() + root.value[Props.LEFT];
        root.y = root.margin() + root.value[Props.TOP];
        places(root);
        return root.h + 2 * root.padding() + 2 * root.margin();
    }

    private int widthIn(Node node, int outer) {
        int width = node.width();
        if (width >= 100000) {
            return outer * (width - 100000) / 100;
        }
        if (width >= 0) {
            return width;
        }
        int left = outer - 2 * node.margin() - 2 * node.padding();
        if (left < 0) {
            left = 0;
        }
        if (node.free()) {
            if (left < size(node, true)) {
                left = size(node, true);
            }
            if (left > size(node, false)) {
                left = size(node, false);
            }
        }
        return left;
    }

    private void widths(Node node) {
        if (node.flex()) {
            flexWidths(node);
        }
        if (node.table()) {
            tableWidths(node);
        }
        for (Node child : node.children) {
            if (child.free() || node.block()) {
                child.w = widthIn(child, node.w);
            }
            widths(child);
        }
    }

    private static long restOf(Node flex, int[] sizes) {
        List<Node> flow = flex.flow();
        long f = flex.w;
        for (int i = 0; i < sizes.length; i++) {
            f -= sizes[i] + 2L * flow.get(i).padding() + 2L * flow.get(i).margin();
        }
        return f;
    }

    private void flexWidths(Node flex) {
        List<Node> flow = flex.flow();
        int[] sizes = new int[flow.size()];
        for (int i = 0; i < sizes.length; i++) {
            Node child = flow.get(i);
            sizes[i] = child.width() == -1 ? size(child, false) : widthIn(child, flex.w);
        }
        long f = restOf(flex, sizes);
        if (f > 0) {
            growSizes(flow, sizes, f);
        }
        if (f < 0) {
            shrinkSizes(flex, flow, sizes);
        }
        for (int i = 0; i < sizes.length; i++) {
            flow.get(i).w = sizes[i];
        }
    }

    private void growSizes(List<Node> flow, int[] sizes, long f) {
        long all = flow.stream().mapToInt(child -> child.value[Props.GROW]).sum();
        if (all == 0) {
            return;
        }
        long given = 0;
        for (int i = 0; i < sizes.length; i++) {
            long more = f * flow.get(i).value[Props.GROW] / all;
            sizes[i] += (int) more;
            given += more;
        }
        for (int i = 0; i < sizes.length && given < f; i++) {
            if (flow.get(i).value[Props.GROW] > 0) {
                sizes[i]++;
                given++;
            }
        }
    }

    private void shrinkSizes(Node flex, List<Node> flow, int[] sizes) {
        List<Integer> open = new ArrayList<>();
        for (int i = 0; i < sizes.length; i++) {
            if (flow.get(i).value[Props.SHRINK] * sizes[i] > 0) {
                open.add(i);
            }
        }
        while (true) {
            long f = restOf(flex, sizes);
            if (f >= 0 || open.isEmpty()) {
                return;
            }
            long all = 0;
            for (int i : open) {
                all += (long) flow.get(i).value[Props.SHRINK] * sizes[i];
            }
            long[] losses = new long[sizes.length];
            List<Integer> below = new ArrayList<>();
            for (int i : open) {
                losses[i] = -f * flow.get(i).value[Props.SHRINK] * sizes[i] / all;
                if (sizes[i] - losses[i] < core(flow.get(i), true)) {
                    below.add(i);
                }
            }
            if (below.isEmpty()) {
                for (int i : open) {
                    sizes[i] -= (int) losses[i];
                }
                long tooMuch = -restOf(flex, sizes);
                for (int i : open) {
                    if (tooMuch > 0 && sizes[i] > core(flow.get(i), true)) {
                        sizes[i]--;
                        tooMuch--;
                    }
                }
                return;
            }
            for (int i : below) {
                sizes[i] = Math.min(core(flow.get(i), true), sizes[i]);
            }
            open.removeAll(below);
        }
    }

    private void tableWidths(Node table) {
        int[] least = columnSizes(table, true);
        int[] most = columnSizes(table, false);
        long a = Arrays.stream(least).sum();
        long b = Arrays.stream(most).sum();
        int[] sizes = b <= table.w ? most : least.clone();
        if (b > table.w && a < table.w) {
            for (int k = 0; k < sizes.length; k++) {
                sizes[k] = (int) (least[k] + (most[k] - least[k]) * (table.w - a) / (b - a));
            }
            for (int k = 0; k < sizes.length; k++) {
                if (Arrays.stream(sizes).sum() < table.w && sizes[k] < most[k]) {
                    sizes[k]++;
                }
            }
        }
        table.columnWidths = sizes;
        for (Node row : table.flow()) {
            row.w = Arrays.stream(sizes).sum();
            List<Node> cells = row.flow();
            for (int k = 0; k < cells.size(); k++) {
                cells.get(k).w = Math.max(0, sizes[k] - 2 * cells.get(k).padding());
            }
        }
    }

    private int fixed(Node node) {
        int height = node.height();
        if (height >= 100000) {
            int outer = node.parent == null ? pageHeight : fixed(node.parent);
            return outer < 0 ? -1 : outer * (height - 100000) / 100;
        }
        return height;
    }

    private void heights(Node node) {
        for (Node child : node.children) {
            heights(child);
        }
        node.h = fixed(node) >= 0 ? fixed(node) : contentHeight(node);
        for (Node child : node.flow()) {
            if (child.height() == -1 && node.flex()) {
                child.h = Math.max(0, node.h - 2 * child.padding() - 2 * child.margin());
            }
            if (child.height() == -1 && node.row()) {
                child.h = Math.max(0, node.h - 2 * child.padding());
            }
        }
    }

    private static int contentHeight(Node node) {
        List<Node> flow = node.flow();
        if (flow.isEmpty()) {
            int n = Math.max(1, (node.w + 1) / (node.value[Props.LETTERS] + 1));
            int lines = 0;
            for (int words = node.value[Props.WORDS]; words > 0; words -= n) {
                lines++;
            }
            return 10 * lines;
        }
        int sum = 0;
        int greatest = 0;
        for (int i = 0; i < flow.size(); i++) {
            Node child = flow.get(i);
            int frame = child.h + 2 * child.padding();
            greatest = Math.max(greatest, frame + 2 * child.margin());
            sum += frame;
            if (node.block()) {
                sum += i == 0 ? child.margin() : Math.max(child.margin(), flow.get(i - 1).margin());
                sum += i == flow.size() - 1 ? child.margin() : 0;
            }
        }
        return node.flex() || node.row() ? greatest : sum;
    }

    private static void places(Node node) {
        int left = node.x + node.padding();
        int top = node.y + node.padding();
        int dx = 0;
        int dy = 0;
        int before = 0;
        List<Node> flow = node.flow();
        for (int i = 0; i < flow.size(); i++) {
            Node child = flow.get(i);
            int frameWidth = child.w + 2 * child.padding();
            int frameHeight = child.h + 2 * child.padding();
            if (node.block()) {
                dy += Math.max(before, child.margin());
                before = child.margin();
                put(child, left + child.margin(), top + dy);
                dy += frameHeight;
            } else if (node.flex()) {
                put(child, left + dx + child.margin(), top + child.margin());
                dx += frameWidth + 2 * child.margin();
            } else if (node.table()) {
                put(child, left, top + dy);
                dy += frameHeight;
            } else {
                put(child, left + dx, top);
                dx += node.parent.columnWidths[i];
            }
        }
        for (Node child : node.children) {
            if (child.free()) {
                put(child, left + child.margin(), top + child.margin());
            }
            places(child);
        }
    }

    private static void put(Node node, int x, int y) {
        node.x = x + node.value[Props.LEFT];
        node.y = y + node.value[Props.TOP];
    }

    int hit(int x, int y) {
        List<Node> order = new ArrayList<>();
        collect(nodes.get(0), order);
        Node best = null;
        for (Node node : order) {
            boolean inside = x >= node.x && x < node.x + node.w + 2 * node.padding()
                    && y >= node.y && y < node.y + node.h + 2 * node.padding();
            if (inside && (best == null || best.value[Props.LEVEL] <= node.value[Props.LEVEL])) {
                best = node;
            }
        }
        return best == null ? -1 : best.number;
    }

    private static void collect(Node node, List<Node> order) {
        order.add(node);
        for (Node child : node.children) {
            collect(child, order);
        }
    }
}
