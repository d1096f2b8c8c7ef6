/**
 * An outline: headings one below the other, each at a level, moved with all that is under them,
 * folded and unfolded.
 */
public final class OutlineEditor {
    public static final int BAD_ARG = -1;
    public static final int FULL = -2;
    public static final int NONE = -4;

    private static final int CAPACITY = 40;
    private static final int DEEPEST = 7;

    private final int[] names = new int[CAPACITY];
    private final int[] levels = new int[CAPACITY];
    private final boolean[] folded = new boolean[CAPACITY];

    private int count;
    // Kept apart from count, because a removed heading's name is never given again.
    private int made;

    public OutlineEditor() {
        count = 0;
        made = 0;
    }

    public int add(int level) {
        if (!isLevel(level)) {
            return BAD_ARG;
        }
        if (count == CAPACITY) {
            return FULL;
        }
        int deepestHere = count == 0 ? 0 : levels[count - 1] + 1;
        if (level > deepestHere) {
            return NONE;
        }
        return insert(count, level);
    }

    public int addAfter(int i) {
        if (!isPlace(i)) {
            return BAD_ARG;
        }
        if (count == CAPACITY) {
            return FULL;
        }
        int end = branchEnd(i);
        return insert(end, levels[i]);
    }

    public int addUnder(int i) {
        if (!isPlace(i)) {
            return BAD_ARG;
        }
        if (count == CAPACITY) {
            return FULL;
        }
        if (levels[i] == DEEPEST) {
            return NONE;
        }
        return insert(i + 1, levels[i] + 1);
    }

    public int remove(int i) {
        if (!isPlace(i)) {
            return BAD_ARG;
        }
        int end = branchEnd(i);
        cut(i, end);
        return end - i;
    }

    public int dissolve(int i) {
        if (!isPlace(i)) {
            return BAD_ARG;
        }
        int end = branchEnd(i);
        shiftLevels(i + 1, end, -1);
        cut(i, i + 1);
        return end - i - 1;
    }

    public int indent(int i) {
        if (!isPlace(i)) {
            return BAD_ARG;
        }
        if (i == 0 || levels[i] > levels[i - 1]) {
            return NONE;
        }
        int end = branchEnd(i);
        if (deepestLevel(i, end) == DEEPEST) {
            return NONE;
        }
        shiftLevels(i, end, 1);
        return levels[i];
    }

    public int outdent(int i) {
        if (!isPlace(i)) {
            return BAD_ARG;
        }
        if (levels[i] == 0) {
            return NONE;
        }
        int end = branchEnd(i);
        shiftLevels(i, end, -1);
        return levels[i];
    }

    public int up(int i) {
        if (!isPlace(i)) {
            return BAD_ARG;
        }
        int brother = brotherBefore(i);
        if (brother == NONE) {
            return NONE;
        }
        int end = branchEnd(i);
        exchange(brother, i, end);
        return brother;
    }

    public int down(int i) {
        if (!isPlace(i)) {
            return BAD_ARG;
        }
        int next = branchEnd(i);
        if (next == count || levels[next] != levels[i]) {
            return NONE;
        }
        int end = branchEnd(next);
        exchange(i, next, end);
        return i + (end - next);
    }

    public int moveUnder(int i, int j) {
        if (!isPlace(i) || !isPlace(j)) {
            return BAD_ARG;
        }
        int end = branchEnd(i);
        if (i <= j && j < end) {
            return NONE;
        }
        int change = levels[j] + 1 - levels[i];
        if (deepestLevel(i, end) + change > DEEPEST) {
            return NONE;
        }
        // Found before the levels change. Of two branches one holds the other or they are apart,
        // so the target is never inside the branch at i.
        int target = branchEnd(j);
        shiftLevels(i, end, change);
        if (target <= i) {
            exchange(target, i, end);
            return target;
        }
        exchange(i, end, target);
        return target - (end - i);
    }

    public int fold(int i, int on) {
        if (!isPlace(i)) {
            return BAD_ARG;
        }
        int before = folded[i] ? 1 : 0;
        folded[i] = on != 0;
        return before;
    }

    public int foldLevel(int level) {
        if (!isLevel(level)) {
            return BAD_ARG;
        }
        int foldedNow = 0;
        for (int k = 0; k < count; k++) {
            folded[k] = levels[k] == level && hasUnder(k);
            if (folded[k]) {
                foldedNow++;
            }
        }
        return foldedNow;
    }

    public int reveal(int i) {
        if (!isPlace(i)) {
            return BAD_ARG;
        }
        int unfolded = 0;
        int least = levels[i];
        for (int k = i - 1; k >= 0; k--) {
            if (levels[k] < least) {
                least = levels[k];
                if (folded[k]) {
                    folded[k] = false;
                    unfolded++;
                }
            }
        }
        return unfolded;
    }

    public int size() {
        return count;
    }

    public int name(int i) {
        return isPlace(i) ? names[i] : BAD_ARG;
    }

    public int level(int i) {
        return isPlace(i) ? levels[i] : BAD_ARG;
    }

    public int place(int name) {
        for (int k = 0; k < count; k++) {
            if (names[k] == name) {
                return k;
            }
        }
        return NONE;
    }

    public int parent(int i) {
        if (!isPlace(i)) {
            return BAD_ARG;
        }
        for (int k = i - 1; k >= 0; k--) {
            if (levels[k] < levels[i]) {
                return k;
            }
        }
        return NONE;
    }

    public int under(int i) {
        if (!isPlace(i)) {
            return BAD_ARG;
        }
        int end = branchEnd(i);
        return end - i - 1;
    }

    public int rows() {
        return visibleBefore(count);
    }

    public int row(int r) {
        int seen = 0;
        for (int k = 0; k < count; k++) {
            if (isVisible(k)) {
                if (seen == r) {
                    return k;
                }
                seen++;
            }
        }
        return NONE;
    }

    public int rowOf(int i) {
        if (!isPlace(i)) {
            return BAD_ARG;
        }
        if (!isVisible(i)) {
            return NONE;
        }
        return visibleBefore(i);
    }

    private boolean isPlace(int i) {
        return 0 <= i && i < count;
    }

    private boolean isLevel(int level) {
        return 0 <= level && level <= DEEPEST;
    }

    private int branchEnd(int i) {
        for (int k = i + 1; k < count; k++) {
            if (levels[k] <= levels[i]) {
                return k;
            }
        }
        return count;
    }

    // A level is at most one more than the one before it, so the next heading alone tells.
    private boolean hasUnder(int i) {
        return i + 1 < count && levels[i + 1] > levels[i];
    }

    private int brotherBefore(int i) {
        for (int k = i - 1; k >= 0; k--) {
            if (levels[k] < levels[i]) {
                return NONE;
            }
            if (levels[k] == levels[i]) {
                return k;
            }
        }
        return NONE;
    }

    private int deepestLevel(int from, int end) {
        int deepest = 0;
        for (int k = from; k < end; k++) {
            if (levels[k] > deepest) {
                deepest = levels[k];
            }
        }
        return deepest;
    }

    // Going back, each heading with a level less than all met so far is one that i is under.
    private boolean isVisible(int i) {
        int least = levels[i];
        for (int k = i - 1; k >= 0; k--) {
            if (levels[k] < least) {
                least = levels[k];
                if (folded[k]) {
                    return false;
                }
            }
        }
        return true;
    }

    private int visibleBefore(int end) {
        int seen = 0;
        for (int k = 0; k < end; k++) {
            if (isVisible(k)) {
                seen++;
            }
        }
        return seen;
    }

    private void shiftLevels(int from, int end, int change) {
        for (int k = from; k < end; k++) {
            levels[k] += change;
        }
    }

    private int insert(int at, int level) {
        for (int k = count; k > at; k--) {
            copyHeading(k - 1, k);
        }
        int newName = made;
        names[at] = newName;
        levels[at] = level;
        folded[at] = false;
        count++;
        made++;
        return newName;
    }

    private void cut(int from, int end) {
        int length = end - from;
        for (int k = end; k < count; k++) {
            copyHeading(k, k - length);
        }
        count -= length;
    }

    private void copyHeading(int from, int to) {
        names[to] = names[from];
        levels[to] = levels[from];
        folded[to] = folded[from];
    }

    // Reversing both stretches and then the whole swaps them without any spare room.
    private void exchange(int first, int second, int end) {
        reverse(first, second);
        reverse(second, end);
        reverse(first, end);
    }

    private void reverse(int from, int end) {
        int half = (end - from) / 2;
        for (int k = 0; k < half; k++) {
            swapHeadings(from + k, end - 1 - k);
        }
    }

    private void swapHeadings(int a, int b) {
        int nameOfA = names[a];
        int levelOfA = levels[a];
        boolean foldOfA = folded[a];
        copyHeading(b, a);
        names[b] = nameOfA;
        levels[b] = levelOfA;
        folded[b] = foldOfA;
    }
}
