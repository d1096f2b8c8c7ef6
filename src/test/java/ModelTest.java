import java.util.ArrayList;
import java.util.List;

// Runs of mixed calls on an OutlineEditor and on a second outline that is held as a tree. The
// calls come from a fixed sequence of numbers, so that each run of this test is the same.
public final class ModelTest {
    private static final int BAD_ARG = -1;
    private static final int FULL = -2;
    private static final int NONE = -4;

    private static final int RUNS = 4000;
    // With the calls that compare the whole outline at the end, a run stays within 512 calls.
    private static final int MOST_CALLS = 180;
    private static final int LONG_RUNS = 600;
    private static final int ALL_CALLS = 512;

    private static final String[] CALLS = {
        "add", "addAfter", "addUnder", "remove", "dissolve", "indent", "outdent", "up", "down",
        "moveUnder", "fold", "foldLevel", "reveal", "size", "name", "level", "place", "parent",
        "under", "rows", "row", "rowOf"
    };

    private static final class Node {
        final int name;
        boolean folded;
        Node parent;
        final List<Node> children = new ArrayList<>();

        Node(int name) {
            this.name = name;
        }

        int level() {
            int level = -1;
            for (Node node = parent; node != null; node = node.parent) {
                level++;
            }
            return level;
        }

        int height() {
            int height = 0;
            for (Node child : children) {
                height = Math.max(height, child.height() + 1);
            }
            return height;
        }

        int index() {
            return parent.children.indexOf(this);
        }

        void putInto(Node newParent, int at) {
            parent = newParent;
            newParent.children.add(at, this);
        }

        void putLastInto(Node newParent) {
            putInto(newParent, newParent.children.size());
        }

        void leave() {
            parent.children.remove(this);
        }

        void list(List<Node> all, boolean visibleOnly) {
            for (Node child : children) {
                all.add(child);
                if (!visibleOnly || !child.folded) {
                    child.list(all, visibleOnly);
                }
            }
        }

        List<Node> below(boolean visibleOnly) {
            List<Node> all = new ArrayList<>();
            list(all, visibleOnly);
            return all;
        }
    }

    // The root is no heading: it stands above those of level 0.
    private static final class Tree {
        final Node root = new Node(-1);
        int made = 0;

        List<Node> all() {
            return root.below(false);
        }

        int make(Node parent, int at) {
            new Node(made).putInto(parent, at);
            return made++;
        }

        int add(int level) {
            List<Node> all = all();
            if (level < 0 || level > 7) {
                return BAD_ARG;
            }
            if (all.size() == 40) {
                return FULL;
            }
            Node parent = all.isEmpty() ? root : all.get(all.size() - 1);
            if (level > parent.level() + 1) {
                return NONE;
            }
            while (parent.level() >= level) {
                parent = parent.parent;
            }
            return make(parent, parent.children.size());
        }

        int addBeside(Node node) {
            return all().size() == 40 ? FULL : make(node.parent, node.index() + 1);
        }

        int addUnder(Node node) {
            if (all().size() == 40) {
                return FULL;
            }
            return node.level() == 7 ? NONE : make(node, 0);
        }

        int remove(Node node) {
            node.leave();
            return node.below(false).size() + 1;
        }

        int dissolve(Node node) {
            int under = node.below(false).size();
            int at = node.index();
            node.leave();
            for (Node child : node.children) {
                child.putInto(node.parent, at++);
            }
            return under;
        }

        int indent(Node node) {
            int at = node.index();
            if (at == 0 || node.level() + node.height() == 7) {
                return NONE;
            }
            Node brother = node.parent.children.get(at - 1);
            node.leave();
            node.putLastInto(brother);
            return node.level();
        }

        int outdent(Node node) {
            Node parent = node.parent;
            if (parent == root) {
                return NONE;
            }
            while (parent.children.size() > node.index() + 1) {
                Node next = parent.children.remove(node.index() + 1);
                next.putLastInto(node);
            }
            node.leave();
            node.putInto(parent.parent, parent.index() + 1);
            return node.level();
        }

        int shift(Node node, int by) {
            int at = node.index() + by;
            if (at < 0 || at >= node.parent.children.size()) {
                return NONE;
            }
            node.leave();
            node.putInto(node.parent, at);
            return all().indexOf(node);
        }

        int moveUnder(Node node, Node target) {
            if (node == target || node.below(false).contains(target)) {
                return NONE;
            }
            if (target.level() + 1 + node.height() > 7) {
                return NONE;
            }
            node.leave();
            node.putLastInto(target);
            return all().indexOf(node);
        }

        int fold(Node node, int on) {
            int before = node.folded ? 1 : 0;
            node.folded = on != 0;
            return before;
        }

        int foldLevel(int level) {
            if (level < 0 || level > 7) {
                return BAD_ARG;
            }
            int folded = 0;
            for (Node node : all()) {
                node.folded = node.level() == level && !node.children.isEmpty();
                folded += node.folded ? 1 : 0;
            }
            return folded;
        }

        int reveal(Node node) {
            int unfolded = 0;
            for (Node above = node.parent; above != root; above = above.parent) {
                unfolded += above.folded ? 1 : 0;
                above.folded = false;
            }
            return unfolded;
        }

        int place(int name) {
            for (Node node : all()) {
                if (node.name == name) {
                    return all().indexOf(node);
                }
            }
            return NONE;
        }

        int row(int r) {
            List<Node> rows = root.below(true);
            return r < 0 || r >= rows.size() ? NONE : all().indexOf(rows.get(r));
        }

        int rowOf(Node node) {
            int row = root.below(true).indexOf(node);
            return row < 0 ? NONE : row;
        }

        int answer(String call, int a, int b) {
            switch (call) {
                case "add": return add(a);
                case "foldLevel": return foldLevel(a);
                case "size": return all().size();
                case "place": return place(a);
                case "rows": return root.below(true).size();
                case "row": return row(a);
                default: return answerAtPlace(call, a, b);
            }
        }

        int answerAtPlace(String call, int a, int b) {
            List<Node> all = all();
            boolean badTarget = call.equals("moveUnder") && (b < 0 || b >= all.size());
            if (a < 0 || a >= all.size() || badTarget) {
                return BAD_ARG;
            }
            Node node = all.get(a);
            switch (call) {
                case "addAfter": return addBeside(node);
                case "addUnder": return addUnder(node);
                case "remove": return remove(node);
                case "dissolve": return dissolve(node);
                case "indent": return indent(node);
                case "outdent": return outdent(node);
                case "up": return shift(node, -1);
                case "down": return shift(node, 1);
                case "moveUnder": return moveUnder(node, all.get(b));
                case "fold": return fold(node, b);
                case "reveal": return reveal(node);
                case "name": return node.name;
                case "level": return node.level();
                case "parent": return node.parent == root ? NONE : all.indexOf(node.parent);
                case "under": return node.below(false).size();
                case "rowOf": return rowOf(node);
                default: throw new IllegalArgumentException(call);
            }
        }
    }

    private static int answer(OutlineEditor x, String call, int a, int b) {
        switch (call) {
            case "add": return x.add(a);
            case "addAfter": return x.addAfter(a);
            case "addUnder": return x.addUnder(a);
            case "remove": return x.remove(a);
            case "dissolve": return x.dissolve(a);
            case "indent": return x.indent(a);
            case "outdent": return x.outdent(a);
            case "up": return x.up(a);
            case "down": return x.down(a);
            case "moveUnder": return x.moveUnder(a, b);
            case "fold": return x.fold(a, b);
            case "foldLevel": return x.foldLevel(a);
            case "reveal": return x.reveal(a);
            case "size": return x.size();
            case "name": return x.name(a);
            case "level": return x.level(a);
            case "place": return x.place(a);
            case "parent": return x.parent(a);
            case "under": return x.under(a);
            case "rows": return x.rows();
            case "row": return x.row(a);
            case "rowOf": return x.rowOf(a);
            default: throw new IllegalArgumentException(call);
        }
    }

    private static long state = 1;

    private static int next(int bound) {
        state = state * 6364136223846793005L + 1442695040888963407L;
        return (int) ((state >>> 33) % bound);
    }

    private static int argument(int range) {
        switch (next(60)) {
            case 0: return Integer.MIN_VALUE;
            case 1: return Integer.MAX_VALUE;
            case 2: return -1 - next(5);
            case 3: return range + next(5);
            default: return range == 0 ? 0 : next(range);
        }
    }

    private static int firstArgument(String call, Tree tree) {
        switch (call) {
            case "add": return argument(8);
            case "foldLevel": return argument(8);
            case "place": return argument(tree.made);
            default: return argument(tree.all().size());
        }
    }

    private static int secondArgument(String call, Tree tree) {
        return call.equals("fold") ? next(3) - 1 : argument(tree.all().size());
    }

    // Some runs grow and so meet FULL, in others nothing is removed and the outline gets deep.
    private static String chooseCall(int kind) {
        if (kind == 1 && next(2) == 0) {
            return CALLS[next(3)];
        }
        if (kind == 2 && next(3) == 0) {
            return next(2) == 0 ? "addUnder" : "indent";
        }
        String call = CALLS[next(CALLS.length)];
        boolean shrinks = call.equals("remove") || call.equals("dissolve");
        return shrinks && kind != 0 && next(4) != 0 ? "moveUnder" : call;
    }

    private static String compare(OutlineEditor x, Tree tree, String call, int a, int b) {
        int want = tree.answer(call, a, b);
        int got = answer(x, call, a, b);
        return got == want
            ? ""
            : call + " (" + a + ", " + b + ") answered " + got + ", due is " + want + "\n";
    }

    private static String compareAll(OutlineEditor x, Tree tree) {
        StringBuilder differences = new StringBuilder();
        String[] calls = {"name", "level", "parent", "under", "row", "rowOf", "fold"};
        int n = tree.all().size();
        for (String call : calls) {
            for (int i = 0; i < n; i++) {
                differences.append(compare(x, tree, call, i, 1));
            }
        }
        differences.append(compare(x, tree, "size", 0, 0));
        differences.append(compare(x, tree, "rows", 0, 0));
        return differences.toString();
    }

    private static String run(OutlineEditor x, Tree tree, int calls, int kind) {
        StringBuilder told = new StringBuilder();
        for (int k = 0; k < calls; k++) {
            String call = chooseCall(kind);
            int a = firstArgument(call, tree);
            int b = secondArgument(call, tree);
            String difference = compare(x, tree, call, a, b);
            told.append(call).append(" (").append(a).append(", ").append(b).append(")\n");
            if (!difference.isEmpty()) {
                return told + "differs: " + difference;
            }
        }
        if (calls > MOST_CALLS) {
            return "";
        }
        String differences = compareAll(x, tree);
        return differences.isEmpty() ? "" : told + "differs at the end:\n" + differences;
    }

    public static void main(String[] args) {
        for (int k = 0; k < RUNS + LONG_RUNS; k++) {
            int calls = k < RUNS ? 1 + k % MOST_CALLS : ALL_CALLS;
            String told = run(new OutlineEditor(), new Tree(), calls, k % 3);
            if (!told.isEmpty()) {
                System.out.println("run " + k + ", a call's second argument told even if unused:");
                System.out.println(told);
                System.exit(1);
            }
        }
    }
}
