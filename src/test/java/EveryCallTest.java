import java.util.ArrayList;
import java.util.List;

// Every call, with the arguments from -1 to behind the last place, on every small outline with every
// choice of folds, against the document's own definitions, taken word for word: no term is put in
// another form, however slow that is. Small outlines stand also behind the deepest levels and at the
// end of a full one, and of one with room for one heading more.
public final class EveryCallTest {
    private static final int BAD_ARG = -1;
    private static final int FULL = -2;
    private static final int NONE = -4;

    private static final int ENOUGH_TOLD = 100;
    private static int wrong = 0;

    private static final String[] WITHOUT = {"size", "rows"};
    private static final String[] WITH_ONE = {
        "add", "addAfter", "addUnder", "remove", "dissolve", "indent", "outdent", "up", "down",
        "foldLevel", "reveal", "name", "level", "place", "parent", "under", "row", "rowOf"
    };

    private static final class Heading {
        final int name;
        int level;
        boolean folded;

        Heading(int name, int level, boolean folded) {
            this.name = name;
            this.level = level;
            this.folded = folded;
        }
    }

    private static final class Document {
        final List<Heading> outline = new ArrayList<>();
        int made = 0;

        int n() {
            return outline.size();
        }

        int levelAt(int i) {
            return outline.get(i).level;
        }

        boolean noPlace(int i) {
            return !(i >= 0 && i <= n() - 1);
        }

        // "the places from i up to, not including, the first place behind i whose heading's level
        // is not greater than that of the heading at i (or up to the end)"
        List<Integer> branch(int i) {
            List<Integer> places = new ArrayList<>();
            places.add(i);
            for (int k = i + 1; k < n() && levelAt(k) > levelAt(i); k++) {
                places.add(k);
            }
            return places;
        }

        // "if j is in the branch at i and is not i"
        boolean isUnder(int j, int i) {
            return branch(i).contains(j) && j != i;
        }

        int countUnder(int i) {
            int count = 0;
            for (int j = 0; j < n(); j++) {
                count += isUnder(j, i) ? 1 : 0;
            }
            return count;
        }

        // "if it is under no folded heading"
        boolean visible(int i) {
            for (int k = 0; k < n(); k++) {
                if (outline.get(k).folded && isUnder(i, k)) {
                    return false;
                }
            }
            return true;
        }

        // "the visible headings in their order, numbered from 0 on"
        List<Integer> allRows() {
            List<Integer> rows = new ArrayList<>();
            for (int i = 0; i < n(); i++) {
                if (visible(i)) {
                    rows.add(i);
                }
            }
            return rows;
        }

        List<Heading> headings(List<Integer> places) {
            List<Heading> found = new ArrayList<>();
            for (int place : places) {
                found.add(outline.get(place));
            }
            return found;
        }

        int make(int at, int level) {
            outline.add(at, new Heading(made, level, false));
            made++;
            return made - 1;
        }

        void changeLevels(List<Heading> headings, int change) {
            for (Heading heading : headings) {
                heading.level += change;
            }
        }

        boolean someAbove(List<Heading> headings, int change, int most) {
            for (Heading heading : headings) {
                if (heading.level + change > most) {
                    return true;
                }
            }
            return false;
        }

        int add(int level) {
            if (!(level >= 0 && level <= 7)) {
                return BAD_ARG;
            }
            if (n() == 40) {
                return FULL;
            }
            if (n() == 0 ? level > 0 : level - levelAt(n() - 1) > 1) {
                return NONE;
            }
            return make(n(), level);
        }

        int addAfter(int i) {
            return n() == 40 ? FULL : make(i + branch(i).size(), levelAt(i));
        }

        int addUnder(int i) {
            if (n() == 40) {
                return FULL;
            }
            return levelAt(i) == 7 ? NONE : make(i + 1, levelAt(i) + 1);
        }

        int remove(int i) {
            List<Heading> gone = headings(branch(i));
            outline.removeAll(gone);
            return gone.size();
        }

        int dissolve(int i) {
            List<Heading> under = headings(branch(i));
            Heading gone = under.remove(0);
            outline.remove(gone);
            changeLevels(under, -1);
            return under.size();
        }

        int indent(int i) {
            List<Heading> moved = headings(branch(i));
            if (i == 0 || levelAt(i) > levelAt(i - 1) || someAbove(moved, 1, 7)) {
                return NONE;
            }
            changeLevels(moved, 1);
            return levelAt(i);
        }

        int outdent(int i) {
            if (levelAt(i) == 0) {
                return NONE;
            }
            changeLevels(headings(branch(i)), -1);
            return levelAt(i);
        }

        // "the nearest place before i that has the same level, if no place between has a lesser
        // one"
        int brotherBefore(int i) {
            int brother = i - 1;
            while (brother >= 0 && levelAt(brother) != levelAt(i)) {
                brother--;
            }
            for (int k = brother + 1; k < i; k++) {
                if (levelAt(k) < levelAt(i)) {
                    return NONE;
                }
            }
            return brother < 0 ? NONE : brother;
        }

        int up(int i) {
            int brother = brotherBefore(i);
            if (brother == NONE) {
                return NONE;
            }
            Heading before = outline.get(brother);
            List<Heading> moved = headings(branch(i));
            outline.removeAll(moved);
            outline.addAll(outline.indexOf(before), moved);
            return outline.indexOf(moved.get(0));
        }

        int down(int i) {
            List<Heading> first = headings(branch(i));
            int next = i + first.size();
            if (noPlace(next) || levelAt(next) != levelAt(i)) {
                return NONE;
            }
            List<Heading> second = headings(branch(next));
            outline.removeAll(first);
            outline.removeAll(second);
            outline.addAll(i, first);
            outline.addAll(i, second);
            return outline.indexOf(first.get(0));
        }

        int moveUnder(int i, int j) {
            if (branch(i).contains(j)) {
                return NONE;
            }
            Heading over = outline.get(j);
            List<Heading> moved = headings(branch(i));
            int change = over.level + 1 - levelAt(i);
            if (someAbove(moved, change, 7)) {
                return NONE;
            }
            outline.removeAll(moved);
            int without = outline.indexOf(over);
            outline.addAll(without + branch(without).size(), moved);
            changeLevels(moved, change);
            return outline.indexOf(moved.get(0));
        }

        int fold(int i, int on) {
            boolean before = outline.get(i).folded;
            outline.get(i).folded = on != 0;
            return before ? 1 : 0;
        }

        int foldLevel(int level) {
            if (!(level >= 0 && level <= 7)) {
                return BAD_ARG;
            }
            int folded = 0;
            for (int i = 0; i < n(); i++) {
                outline.get(i).folded = levelAt(i) == level && countUnder(i) > 0;
                folded += outline.get(i).folded ? 1 : 0;
            }
            return folded;
        }

        int reveal(int i) {
            int folded = 0;
            for (int k = 0; k < n(); k++) {
                if (isUnder(i, k)) {
                    folded += fold(k, 0);
                }
            }
            return folded;
        }

        int place(int name) {
            for (Heading heading : outline) {
                if (heading.name == name) {
                    return outline.indexOf(heading);
                }
            }
            return NONE;
        }

        // "the nearest one before it whose level is less"
        int parent(int i) {
            if (levelAt(i) == 0) {
                return NONE;
            }
            int k = i - 1;
            while (levelAt(k) >= levelAt(i)) {
                k--;
            }
            return k;
        }

        int row(int r) {
            List<Integer> rows = allRows();
            return r >= 0 && r < rows.size() ? rows.get(r) : NONE;
        }

        int rowOf(int i) {
            return visible(i) ? allRows().indexOf(i) : NONE;
        }

        int answer(String call, int a, int b) {
            switch (call) {
                case "add": return add(a);
                case "foldLevel": return foldLevel(a);
                case "place": return place(a);
                case "row": return row(a);
                case "size": return n();
                case "rows": return allRows().size();
                default:
                    boolean bad = noPlace(a) || call.equals("moveUnder") && noPlace(b);
                    return bad ? BAD_ARG : answerAt(call, a, b);
            }
        }

        int answerAt(String call, int i, int b) {
            switch (call) {
                case "addAfter": return addAfter(i);
                case "addUnder": return addUnder(i);
                case "remove": return remove(i);
                case "dissolve": return dissolve(i);
                case "indent": return indent(i);
                case "outdent": return outdent(i);
                case "up": return up(i);
                case "down": return down(i);
                case "moveUnder": return moveUnder(i, b);
                case "fold": return fold(i, b);
                case "reveal": return reveal(i);
                case "name": return outline.get(i).name;
                case "level": return levelAt(i);
                case "parent": return parent(i);
                case "under": return countUnder(i);
                case "rowOf": return rowOf(i);
                default: throw new IllegalArgumentException(call);
            }
        }
    }

    private static int answer(OutlineEditor x, String call, int a, int b) {
        switch (call) {
            case "add": return x.add(a);
            case "addAfter": return x.addAfter(a);
            case "addUnder": return x.addUnder(a);
            case "remove": return x.remove(a);
            case "dissolve": return x.dissolve(a);
            case "indent": return x.indent(a);
            case "outdent": return x.outdent(a);
            case "up": return x.up(a);
            case "down": return x.down(a);
            case "moveUnder": return x.moveUnder(a, b);
            case "fold": return x.fold(a, b);
            case "foldLevel": return x.foldLevel(a);
            case "reveal": return x.reveal(a);
            case "size": return x.size();
            case "name": return x.name(a);
            case "level": return x.level(a);
            case "place": return x.place(a);
            case "parent": return x.parent(a);
            case "under": return x.under(a);
            case "rows": return x.rows();
            case "row": return x.row(a);
            case "rowOf": return x.rowOf(a);
            default: throw new IllegalArgumentException(call);
        }
    }

    // An outline to begin with: its levels, and a bit for each place that is folded.
    private static final class Start {
        final List<Integer> levels;
        final long folds;

        Start(List<Integer> levels, long folds) {
            this.levels = levels;
            this.folds = folds;
        }

        boolean folded(int i) {
            return (folds >> i & 1) == 1;
        }

        OutlineEditor editor() {
            OutlineEditor x = new OutlineEditor();
            for (int i = 0; i < levels.size(); i++) {
                x.add(levels.get(i));
                if (folded(i)) {
                    x.fold(i, 1);
                }
            }
            return x;
        }

        Document document() {
            Document document = new Document();
            for (int i = 0; i < levels.size(); i++) {
                document.make(i, levels.get(i));
                document.fold(i, folded(i) ? 1 : 0);
            }
            return document;
        }

        @Override
        public String toString() {
            StringBuilder text = new StringBuilder();
            for (int i = 0; i < levels.size(); i++) {
                text.append(i == 0 ? "" : " ").append(levels.get(i)).append(folded(i) ? "*" : "");
            }
            return "[" + text + "]";
        }
    }

    private static void tell(String what, Object got, Object want) {
        wrong++;
        System.out.println(what + ": got " + got + ", due is " + want);
        if (wrong >= ENOUGH_TOLD) {
            System.out.println("enough told");
            System.exit(1);
        }
    }

    // The folds are read last, since reading one clears it.
    private static String state(OutlineEditor x) {
        StringBuilder text = new StringBuilder();
        int n = x.size();
        for (int i = 0; i < n; i++) {
            text.append(x.name(i)).append(':').append(x.level(i)).append(' ');
        }
        for (int i = 0; i < n; i++) {
            text.append(x.fold(i, 0) == 0 ? '.' : '*');
        }
        return text.toString();
    }

    private static String state(Document document) {
        StringBuilder text = new StringBuilder();
        for (Heading heading : document.outline) {
            text.append(heading.name).append(':').append(heading.level).append(' ');
        }
        for (Heading heading : document.outline) {
            text.append(heading.folded ? '*' : '.');
        }
        return text.toString();
    }

    // A full outline gives no name, so room is made first.
    private static int nextName(OutlineEditor x) {
        if (x.size() == 40) {
            x.remove(39);
        }
        return x.add(0);
    }

    private static void check(Start start, String call, int a, int b) {
        OutlineEditor x = start.editor();
        Document document = start.document();
        int got = answer(x, call, a, b);
        int want = document.answer(call, a, b);
        String what = start + " " + call + "(" + a + ", " + b + ")";
        if (got != want) {
            tell(what, got, want);
        }
        String stateGot = state(x);
        String stateDue = state(document);
        if (!stateGot.equals(stateDue)) {
            tell(what + " left", stateGot, stateDue);
        }
        int next = nextName(x);
        if (next != document.made) {
            tell(what + ", then the next name", next, document.made);
        }
    }

    // Levels are tried whole; of the places, those before the first one are all alike.
    private static void checkAllCalls(Start start, int firstPlace) {
        int n = start.levels.size();
        for (String call : WITHOUT) {
            check(start, call, 0, 0);
        }
        for (String call : WITH_ONE) {
            for (int a = -1; a <= 8; a++) {
                check(start, call, a, 0);
            }
            for (int a = Math.max(firstPlace, 9); a <= n + 1; a++) {
                check(start, call, a, 0);
            }
        }
        for (int i = firstPlace - 1; i <= n; i++) {
            for (int on = -1; on <= 2; on++) {
                check(start, "fold", i, on);
            }
            for (int j = firstPlace - 1; j <= n; j++) {
                check(start, "moveUnder", i, j);
            }
        }
    }

    // All lists of levels that begin with the given ones and have so many more.
    private static List<List<Integer>> grown(List<Integer> begin, int more) {
        List<List<Integer>> all = new ArrayList<>();
        all.add(begin);
        for (int k = 0; k < more; k++) {
            List<List<Integer>> longer = new ArrayList<>();
            for (List<Integer> levels : all) {
                int last = levels.isEmpty() ? -1 : levels.get(levels.size() - 1);
                for (int level = 0; level <= Math.min(last + 1, 7); level++) {
                    List<Integer> one = new ArrayList<>(levels);
                    one.add(level);
                    longer.add(one);
                }
            }
            all = longer;
        }
        return all;
    }

    private static void checkGrown(List<Integer> begin, int more, int firstFold, int firstPlace) {
        for (List<Integer> levels : grown(begin, more)) {
            long foldings = 1L << (levels.size() - firstFold);
            for (long folds = 0; folds < foldings; folds++) {
                checkAllCalls(new Start(levels, folds << firstFold), firstPlace);
            }
        }
    }

    private static void checkSmall(int most) {
        for (int n = 0; n <= most; n++) {
            checkGrown(new ArrayList<>(), n, 0, 0);
        }
    }

    private static void checkDeep(int most) {
        for (int n = 0; n <= most; n++) {
            checkGrown(List.of(0, 1, 2, 3, 4, 5, 6), n, 6, 0);
        }
    }

    private static void checkFull(int more) {
        List<Integer> begin = new ArrayList<>();
        while (begin.size() < 40 - more) {
            begin.add(0);
        }
        checkGrown(begin, more, 40 - more, 40 - more);
        begin.remove(0);
        checkGrown(begin, more, 39 - more, 39 - more);
    }

    public static void main(String[] args) {
        checkSmall(5);
        checkDeep(3);
        checkFull(3);
        if (wrong != 0) {
            System.exit(1);
        }
    }
}
