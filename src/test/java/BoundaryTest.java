// One method for each sentence of the document that names a boundary case; main has the sentence
// beside the method, and a wrong answer is told with it.
//
// A state is written as the headings' levels, * for a folded one, and then, behind semicolons, the
// calls made since: "0 1* 2; remove 0". A new outline is "". What stands afterwards is written as
// name:level, again with * for a folded one.
public final class BoundaryTest {
    private static final int BAD_ARG = -1;
    private static final int FULL = -2;
    private static final int NONE = -4;

    private static final int LEAST = Integer.MIN_VALUE;
    private static final int GREATEST = Integer.MAX_VALUE;
    // 256 and 65536 are 0 in their lowest byte or two bytes, the others are the ends of the range.
    private static final int[] FAR = {256, 65536, GREATEST - 1, GREATEST, LEAST, LEAST + 1, -256};
    private static final int[] NO_LEVELS = {-1, 8, 9, 256, 263, GREATEST, LEAST};

    private static final String FULL_FLAT = "0" + " 0".repeat(39);
    private static final String FULL_UNDER_ONE = "0*" + " 1".repeat(39);
    private static final String FULL_DEEP = "0 1 2* 3 4 5 6 7" + " 7".repeat(32);
    private static final String ONE_TO_FULL = "0" + " 0".repeat(38);
    private static final String CHAIN = "0 1 2 3 4 5 6 7";

    private static final String[] STATES = {
        "", "0", "0*", "0 1 1", "0* 1* 2 0", CHAIN, FULL_FLAT, FULL_UNDER_ONE, FULL_DEEP,
        ONE_TO_FULL, "0; remove 0", "0 0 0; remove 1", "0 1 2 1; remove 1", "0* 1*; dissolve 0",
        FULL_FLAT + "; remove 39", FULL_UNDER_ONE + "; remove 0"
    };

    // The calls with a place; # stands for the place that is not there, 0 is there if any is.
    private static final String[] PLACE_CALLS = {
        "addAfter #", "addUnder #", "remove #", "dissolve #", "indent #", "outdent #", "up #",
        "down #", "moveUnder # 0", "moveUnder 0 #", "moveUnder # #", "fold # 1", "fold # 0",
        "reveal #", "name #", "level #", "parent #", "under #", "rowOf #"
    };

    private static final String[] CHANGES_AT_A_PLACE = {
        "addAfter", "addUnder", "remove", "dissolve", "indent", "outdent", "up", "down"
    };

    private static final int ENOUGH_TOLD = 1000;

    private static String sentence = "";
    private static int wrong = 0;

    private static void due(String what, Object got, Object want) {
        if (!got.equals(want)) {
            wrong++;
            System.out.println(sentence + "\n    " + what + ": got " + got + ", due is " + want);
        }
    }

    private static int answer(OutlineEditor x, String call) {
        String[] parts = call.split(" ");
        int a = parts.length > 1 ? Integer.parseInt(parts[1]) : 0;
        int b = parts.length > 2 ? Integer.parseInt(parts[2]) : 0;
        switch (parts[0]) {
            case "add": return x.add(a);
            case "addAfter": return x.addAfter(a);
            case "addUnder": return x.addUnder(a);
            case "remove": return x.remove(a);
            case "dissolve": return x.dissolve(a);
            case "indent": return x.indent(a);
            case "outdent": return x.outdent(a);
            case "up": return x.up(a);
            case "down": return x.down(a);
            case "moveUnder": return x.moveUnder(a, b);
            case "fold": return x.fold(a, b);
            case "foldLevel": return x.foldLevel(a);
            case "reveal": return x.reveal(a);
            case "size": return x.size();
            case "name": return x.name(a);
            case "level": return x.level(a);
            case "place": return x.place(a);
            case "parent": return x.parent(a);
            case "under": return x.under(a);
            case "rows": return x.rows();
            case "row": return x.row(a);
            case "rowOf": return x.rowOf(a);
            default: throw new IllegalArgumentException(call);
        }
    }

    private static OutlineEditor made(String state) {
        OutlineEditor x = new OutlineEditor();
        String[] steps = state.split("; ");
        String[] headings = steps[0].isEmpty() ? new String[0] : steps[0].split(" ");
        for (int k = 0; k < headings.length; k++) {
            int level = headings[k].charAt(0) - '0';
            due("add " + level + " as heading " + k + " of " + state, x.add(level), k);
            if (headings[k].endsWith("*")) {
                x.fold(k, 1);
            }
        }
        for (int k = 1; k < steps.length; k++) {
            answer(x, steps[k]);
        }
        return x;
    }

    // Every fold read is put back.
    private static String show(OutlineEditor x) {
        StringBuilder text = new StringBuilder();
        int n = x.size();
        for (int i = 0; i < n; i++) {
            int folded = x.fold(i, 0);
            x.fold(i, folded);
            text.append(i == 0 ? "" : " ").append(x.name(i)).append(':').append(x.level(i));
            text.append(folded == 1 ? "*" : "");
        }
        return text.toString();
    }

    // All that the calls tell, and the name that the next heading gets. The outline is changed by
    // it. With the calls that make a full outline it stays within 512 calls.
    private static String view(OutlineEditor x) {
        StringBuilder text = new StringBuilder();
        int n = x.size();
        text.append(n).append(" with ").append(x.rows()).append(" rows:");
        for (int i = 0; i < n; i++) {
            int name = x.name(i);
            text.append(' ').append(name).append('@').append(x.place(name));
            text.append(":").append(x.level(i)).append(" in ").append(x.parent(i));
            text.append(" over ").append(x.under(i)).append(" row ").append(x.rowOf(i));
            text.append(" of ").append(x.row(i)).append(',');
        }
        for (int i = 0; i < n; i++) {
            text.append(x.fold(i, 0) == 1 ? " folded" : " open");
        }
        if (n == 40) {
            x.remove(39);
        }
        return text.append(" next ").append(x.add(0)).toString();
    }

    private static void answers(String state, String call, int want) {
        due("[" + state + "] " + call, answer(made(state), call), want);
    }

    private static void changes(String state, String call, int want, String shown) {
        OutlineEditor x = made(state);
        due("[" + state + "] " + call, answer(x, call), want);
        due("[" + state + "] after " + call, show(x), shown);
    }

    private static void refused(String state, String call, int code) {
        OutlineEditor x = made(state);
        due("[" + state + "] " + call, answer(x, call), code);
        due("[" + state + "] after " + call, view(x), view(made(state)));
    }

    // A call that asks only: it answers, and leaves all as it was.
    private static void asks(String state, String call, int want) {
        refused(state, call, want);
    }

    // ---- What it is, and Terms

    // 12 times 40 headings are made and all removed by one call: 492 calls, and then 20 more.
    private static void all512Calls() {
        OutlineEditor x = new OutlineEditor();
        int name = 0;
        for (int round = 0; round < 12; round++) {
            for (int k = 0; k < 40; k++) {
                due("add at call " + (round * 41 + k), x.add(k == 0 ? 0 : 1), name++);
            }
            due("remove in round " + round, x.remove(0), 40);
        }
        for (int k = 0; k < 18; k++) {
            due("add at call " + (492 + k), x.add(0), name++);
        }
        due("call 511: place of the last name", x.place(name - 1), 17);
        due("call 512: name at the last place", x.name(17), name - 1);
    }

    private static void sizesFrom0To40() {
        asks("", "size", 0);
        asks("0", "size", 1);
        asks(ONE_TO_FULL, "size", 39);
        asks(FULL_FLAT, "size", 40);
        asks("0; remove 0", "size", 0);
        answers("", "name 0", BAD_ARG);
        answers(ONE_TO_FULL, "name 38", 38);
        answers(ONE_TO_FULL, "name 39", BAD_ARG);
        answers(FULL_FLAT, "name 39", 39);
        answers(FULL_FLAT, "name 40", BAD_ARG);
        for (String call : new String[] {"add 0", "addAfter 0", "addUnder 0"}) {
            OutlineEditor x = made(ONE_TO_FULL);
            due(call + " makes the 40th", answer(x, call), 39);
            due(call + " the 41st", answer(x, call), FULL);
            due("size after " + call, x.size(), 40);
        }
    }

    private static void namesFrom0On() {
        answers("", "add 0", 0);
        answers("0", "add 0", 1);
        answers("0", "addAfter 0", 1);
        answers("0", "addUnder 0", 1);
        answers("0; remove 0", "add 0", 1);
        answers("0; dissolve 0", "add 0", 1);
        answers("0 0 0; remove 0; remove 0; remove 0", "add 0", 3);
        answers("0 1 1; remove 0; add 0", "addAfter 0", 4);
        answers("0 1 1; remove 0; add 0", "addUnder 0", 4);
        answers("; add 1; add 8; addAfter 0; addUnder 0", "add 0", 0);
        answers(FULL_FLAT + "; add 0; addAfter 0; addUnder 0; remove 0", "add 0", 40);
        changes("0 0; remove 1; addUnder 0; addAfter 0", "add 1", 4, "0:0 2:1 3:0 4:1");
    }

    private static void checkLevelsAfter(String state) {
        OutlineEditor x = made(state);
        int before = -1;
        int n = x.size();
        for (int i = 0; i < n; i++) {
            int level = x.level(i);
            due("[" + state + "] level 0 to 7 at " + i, level >= 0 && level <= 7, true);
            due("[" + state + "] at most one more at " + i, level <= before + 1, true);
            before = level;
        }
    }

    private static void checkLevelsAfterEachCall(String state) {
        int n = made(state).size();
        for (int i = 0; i < n; i++) {
            for (String call : CHANGES_AT_A_PLACE) {
                checkLevelsAfter(state + "; " + call + " " + i);
            }
            for (int j = 0; j < n; j++) {
                checkLevelsAfter(state + "; moveUnder " + i + " " + j);
            }
        }
        for (int level = 0; level <= 7; level++) {
            checkLevelsAfter(state + "; add " + level);
        }
    }

    // Goes through every outline that begins so and has up to this many headings more.
    private static void checkLevelsOfAll(String begin, int last, int more) {
        // A fault that every outline meets would be told without end.
        if (wrong > ENOUGH_TOLD) {
            return;
        }
        if (!begin.isEmpty()) {
            checkLevelsAfterEachCall(begin);
        }
        for (int level = 0; more > 0 && level <= Math.min(last + 1, 7); level++) {
            checkLevelsOfAll((begin + " " + level).trim(), level, more - 1);
        }
    }

    private static void levelsOfAllSmallOutlines() {
        checkLevelsOfAll("", -1, 6);
    }

    private static void levelsOfAllDeepOutlines() {
        checkLevelsOfAll("0 1 2 3 4 5", 5, 3);
    }

    private static void branchUpToTheEnd() {
        asks("0 1 2", "under 0", 2);
        asks("0 1 2", "under 1", 1);
        asks("0 1 2", "under 2", 0);
        asks(FULL_UNDER_ONE, "under 0", 39);
        asks(FULL_UNDER_ONE, "under 39", 0);
        changes("0 1 2", "remove 0", 3, "");
        answers("0 1 2 1; remove 3", "under 1", 1);
        answers("0 1 1; remove 2", "under 1", 0);
    }

    private static void branchUpToNotGreater() {
        asks("0 1 2 1 2", "under 1", 1);
        asks("0 1 2 0 1", "under 1", 1);
        asks("0 1 2 2 3 0", "under 2", 0);
        asks("0 0", "under 0", 0);
        changes("0 1 2 1 2", "remove 1", 2, "0:0 3:1 4:2");
        changes("0 1 2 0 1", "remove 1", 2, "0:0 3:0 4:1");
    }

    private static void underIsNotItself() {
        asks("0*", "under 0", 0);
        asks("0*", "rowOf 0", 0);
        asks("0*", "reveal 0", 0);
    }

    private static void parentIsTheNearest() {
        asks("0 1 1 2", "parent 3", 2);
        asks("0 0 1", "parent 2", 1);
        asks("0 1 2 2 3 1", "parent 5", 0);
        asks("0 1 2 3 2", "parent 4", 1);
        asks(CHAIN, "parent 7", 6);
        asks(FULL_UNDER_ONE, "parent 39", 0);
    }

    private static void visibleUnderNoFolded() {
        asks("0* 1 2", "rowOf 0", 0);
        asks("0* 1 2", "rowOf 1", NONE);
        asks("0* 1 2", "rowOf 2", NONE);
        asks("0 1* 2", "rowOf 2", NONE);
        asks("0 1* 2 1", "rowOf 3", 2);
        asks("0 1* 2 0", "rowOf 3", 2);
        asks("0* 0 1", "rowOf 2", 2);
        asks("0 1* 1 2", "rowOf 3", 3);
        answers("0*; add 1", "rowOf 1", NONE);
        answers("0*; addUnder 0", "rowOf 1", NONE);
        answers("0*; addAfter 0", "rowOf 1", 1);
        answers("0 1*; fold 0 1; fold 0 0", "rowOf 1", 1);
        answers("0 1* 2; fold 0 1; fold 0 0", "rowOf 2", NONE);
    }

    private static void rowsNumberedFrom0() {
        asks("0", "row 0", 0);
        asks("0", "rowOf 0", 0);
        asks("0* 1 0", "row 0", 0);
        asks("0* 1 0", "row 1", 2);
        asks("0* 1 0", "rowOf 2", 1);
        asks(FULL_FLAT, "row 39", 39);
        asks(FULL_FLAT, "rowOf 39", 39);
    }

    private static void movedTogether() {
        changes("0 0 1* 2 1*", "up 1", 0, "1:0 2:1* 3:2 4:1* 0:0");
        changes("0 1* 2 1* 0*", "down 0", 1, "4:0* 0:0 1:1* 2:2 3:1*");
        changes("0 1 2* 3 2* 0*", "moveUnder 1 5", 2, "0:0 5:0* 1:1 2:2* 3:3 4:2*");
        changes("0* 0 1* 2 1", "moveUnder 1 0", 1, "0:0* 1:1 2:2* 3:3 4:2");
        changes("0 1 2 3* 4* 3 0", "moveUnder 3 6", 5, "0:0 1:1 2:2 5:3 6:0 3:1* 4:2*");
        changes("0 0* 1* 2", "indent 1", 1, "0:0 1:1* 2:2* 3:3");
        changes("0 1 2* 3* 4", "outdent 2", 1, "0:0 1:1 2:1* 3:2* 4:3");
    }

    // A fold is changed by fold, foldLevel and reveal alone: not where a heading gains or loses
    // what is under it.
    private static void foldsStay() {
        changes("0*", "add 1", 1, "0:0* 1:1");
        changes("0* 0", "addUnder 0", 2, "0:0* 2:1 1:0");
        changes("0* 1*", "addAfter 1", 2, "0:0* 1:1* 2:1");
        changes("0* 1 0", "remove 1", 1, "0:0* 2:0");
        changes("0* 1* 2*", "dissolve 1", 1, "0:0* 2:1*");
        changes("0* 0 1*", "indent 1", 1, "0:0* 1:1 2:2*");
        changes("0* 1 1*", "outdent 1", 0, "0:0* 1:0 2:1*");
        changes("0* 1* 1", "up 2", 1, "0:0* 2:1 1:1*");
        changes("0* 1* 1", "down 1", 2, "0:0* 2:1 1:1*");
        changes("0* 1 0*", "moveUnder 1 2", 2, "0:0* 2:0* 1:1");
        changes("0* 0* 1*", "moveUnder 2 0", 1, "0:0* 2:1* 1:0*");
    }

    private static void noSuchPlace(String call) {
        for (String state : STATES) {
            int n = made(state).size();
            refused(state, call.replace("#", "-1"), BAD_ARG);
            for (int i = n; i <= 41; i++) {
                refused(state, call.replace("#", "" + i), BAD_ARG);
            }
            for (int i : FAR) {
                refused(state, call.replace("#", "" + i), BAD_ARG);
            }
        }
    }

    private static void neverThrows() {
        String[] calls = {
            "add", "addAfter", "addUnder", "remove", "dissolve", "indent", "outdent", "up", "down",
            "fold", "foldLevel", "reveal", "size", "name", "level", "place", "parent", "under",
            "rows", "row", "rowOf"
        };
        int[] numbers = {LEAST, -41, -40, -8, -1, 0, 1, 6, 7, 8, 38, 39, 40, 41, 511, GREATEST};
        for (String state : STATES) {
            for (int a : numbers) {
                for (String call : calls) {
                    view(made(state + "; " + call + " " + a + " " + a));
                }
                for (int b : numbers) {
                    view(made(state + "; moveUnder " + a + " " + b));
                }
            }
        }
    }

    private static void constants() {
        due("BAD_ARG", OutlineEditor.BAD_ARG, BAD_ARG);
        due("FULL", OutlineEditor.FULL, FULL);
        due("NONE", OutlineEditor.NONE, NONE);
    }

    // ---- Promise 1

    private static void newObject() {
        due("all of a new one", view(new OutlineEditor()), "0 with 0 rows: next 0");
        asks("", "size", 0);
        asks("", "rows", 0);
        asks("", "row 0", NONE);
        asks("", "place 0", NONE);
        asks("", "foldLevel 0", 0);
        OutlineEditor first = made("0* 1");
        due("a second object has its own headings", new OutlineEditor().size(), 0);
        due("a second object has its own names", new OutlineEditor().add(0), 0);
        due("the first keeps its own", show(first), "0:0* 1:1");
    }

    // ---- Promise 2: add

    private static void addMakesAtTheEndNotFolded() {
        changes("", "add 0", 0, "0:0");
        changes("0* 1*", "add 0", 2, "0:0* 1:1* 2:0");
        changes("0* 1*; remove 1", "add 1", 2, "0:0* 2:1");
        changes("0*; remove 0", "add 0", 1, "1:0");
        changes("0* 1*; foldLevel 0; remove 0", "add 0", 2, "2:0");
        changes("0 0*; dissolve 1", "add 0", 2, "0:0 2:0");
        changes("0 0*; moveUnder 0 1; remove 0", "add 0", 2, "2:0");
    }

    private static void addLevelNot0To7() {
        for (int level : NO_LEVELS) {
            refused("", "add " + level, BAD_ARG);
            refused("0 1*", "add " + level, BAD_ARG);
            refused(CHAIN, "add " + level, BAD_ARG);
        }
        answers("", "add 0", 0);
        answers(CHAIN, "add 0", 8);
        answers(CHAIN, "add 7", 8);
        answers("0 1 2 3 4 5 6", "add 7", 7);
    }

    private static void addToFull() {
        refused(FULL_FLAT, "add 0", FULL);
        refused(FULL_FLAT, "add 1", FULL);
        refused(FULL_UNDER_ONE, "add 2", FULL);
        refused(FULL_DEEP, "add 7", FULL);
        answers(ONE_TO_FULL, "add 0", 39);
        answers(FULL_FLAT + "; remove 0", "add 1", 40);
        answers(FULL_FLAT + "; dissolve 39", "add 1", 40);
    }

    private static void addMoreThanOneGreater() {
        for (int last = 0; last <= 7; last++) {
            String state = CHAIN.substring(0, 2 * last + 1);
            for (int level = 0; level <= 7; level++) {
                if (level > last + 1) {
                    refused(state, "add " + level, NONE);
                } else {
                    answers(state, "add " + level, last + 1);
                }
            }
        }
        refused(CHAIN + " 0", "add 2", NONE);
        refused("0 1 2 1", "add 3", NONE);
        refused("0 1 2; remove 2", "add 3", NONE);
    }

    private static void addGreaterThan0ToNone() {
        for (int level = 1; level <= 7; level++) {
            refused("", "add " + level, NONE);
            refused("0; remove 0", "add " + level, NONE);
            refused(CHAIN + "; remove 0", "add " + level, NONE);
        }
        answers("", "add 0", 0);
        answers(CHAIN + "; remove 0", "add 0", 8);
    }

    private static void addTestsInOrder() {
        for (int level : NO_LEVELS) {
            refused(FULL_FLAT, "add " + level, BAD_ARG);
            refused(FULL_DEEP, "add " + level, BAD_ARG);
        }
        for (int level = 2; level <= 7; level++) {
            refused(FULL_FLAT, "add " + level, FULL);
        }
        refused("0 1", "add 8", BAD_ARG);
        refused("", "add 8", BAD_ARG);
        refused("; add 0; remove 0", "add " + GREATEST, BAD_ARG);
    }

    // ---- Promise 3: addAfter

    private static void addAfterBehindTheBranch() {
        changes("0", "addAfter 0", 1, "0:0 1:0");
        changes("0* 1* 2*", "addAfter 0", 3, "0:0* 1:1* 2:2* 3:0");
        changes("0 1 2* 1 0", "addAfter 1", 5, "0:0 1:1 2:2* 5:1 3:1 4:0");
        changes("0 1* 0*", "addAfter 1", 3, "0:0 1:1* 3:1 2:0*");
        changes("0 1 0* 1*", "addAfter 0", 4, "0:0 1:1 4:0 2:0* 3:1*");
        changes(CHAIN, "addAfter 7", 8, "0:0 1:1 2:2 3:3 4:4 5:5 6:6 7:7 8:7");
        changes("0 1*; remove 1", "addAfter 0", 2, "0:0 2:0");
    }

    private static void addAfterToFull() {
        refused(FULL_FLAT, "addAfter 0", FULL);
        refused(FULL_FLAT, "addAfter 39", FULL);
        refused(FULL_UNDER_ONE, "addAfter 0", FULL);
        refused(FULL_DEEP, "addAfter 39", FULL);
        answers(ONE_TO_FULL, "addAfter 0", 39);
        answers(ONE_TO_FULL, "addAfter 38", 39);
        answers(FULL_FLAT + "; remove 39", "addAfter 38", 40);
    }

    private static void addAfterPlaceBeforeFull() {
        for (String state : new String[] {FULL_FLAT, FULL_UNDER_ONE, FULL_DEEP}) {
            refused(state, "addAfter -1", BAD_ARG);
            refused(state, "addAfter 40", BAD_ARG);
        }
    }

    // ---- Promise 4: addUnder

    private static void addUnderBehindTheHeading() {
        changes("0", "addUnder 0", 1, "0:0 1:1");
        changes("0* 1* 2*", "addUnder 0", 3, "0:0* 3:1 1:1* 2:2*");
        changes("0 1 2* 0", "addUnder 1", 4, "0:0 1:1 4:2 2:2* 3:0");
        changes("0 1 0* 0", "addUnder 2", 4, "0:0 1:1 2:0* 4:1 3:0");
        changes("0 1*; remove 1", "addUnder 0", 2, "0:0 2:1");
        answers(ONE_TO_FULL, "addUnder 38", 39);
    }

    private static void addUnderToFull() {
        refused(FULL_FLAT, "addUnder 0", FULL);
        refused(FULL_FLAT, "addUnder 39", FULL);
        refused(FULL_UNDER_ONE, "addUnder 0", FULL);
        answers(ONE_TO_FULL, "addUnder 0", 39);
        answers(FULL_FLAT + "; remove 0", "addUnder 0", 40);
    }

    private static void addUnderLevel7() {
        refused(CHAIN, "addUnder 7", NONE);
        refused(CHAIN + " 7* 0", "addUnder 8", NONE);
        changes(CHAIN, "addUnder 6", 8, "0:0 1:1 2:2 3:3 4:4 5:5 6:6 8:7 7:7");
        changes("0 1 2 3 4 5 6", "addUnder 6", 7, "0:0 1:1 2:2 3:3 4:4 5:5 6:6 7:7");
    }

    private static void addUnderTestsInOrder() {
        refused(FULL_DEEP, "addUnder 7", FULL);
        refused(FULL_DEEP, "addUnder 39", FULL);
        refused(FULL_DEEP, "addUnder 40", BAD_ARG);
        refused(FULL_DEEP, "addUnder -1", BAD_ARG);
        refused(FULL_FLAT, "addUnder 40", BAD_ARG);
        refused(CHAIN + "; remove 7", "addUnder 7", BAD_ARG);
    }

    // ---- Promises 5 and 6: remove, dissolve

    private static void removeAnswersTheNumber() {
        changes("0", "remove 0", 1, "");
        changes("0* 1* 0*", "remove 1", 1, "0:0* 2:0*");
        changes("0* 1 0*", "remove 0", 2, "2:0*");
        changes("0* 1 0", "remove 2", 1, "0:0* 1:1");
        changes("0 1 2* 3 1* 0", "remove 1", 3, "0:0 4:1* 5:0");
        changes(FULL_UNDER_ONE, "remove 0", 40, "");
        changes(CHAIN, "remove 1", 7, "0:0");
        answers(FULL_FLAT, "remove 39", 1);
        answers("0; remove 0", "size", 0);
    }

    private static void dissolveAnswersHowManyWereUnder() {
        changes("0", "dissolve 0", 0, "");
        changes("0 1*", "dissolve 0", 1, "1:0*");
        changes("0* 1 2* 0*", "dissolve 0", 2, "1:0 2:1* 3:0*");
        changes("0 1* 2 3* 2 1* 0", "dissolve 1", 3, "0:0 2:1 3:2* 4:1 5:1* 6:0");
        changes("0 1* 1", "dissolve 1", 0, "0:0 2:1");
        changes("0 1 2", "dissolve 2", 0, "0:0 1:1");
        changes(CHAIN, "dissolve 0", 7, "1:0 2:1 3:2 4:3 5:4 6:5 7:6");
        answers(FULL_UNDER_ONE, "dissolve 0", 39);
        answers(FULL_UNDER_ONE, "dissolve 39", 0);
        answers(FULL_UNDER_ONE + "; dissolve 0", "level 38", 0);
    }

    // ---- Promise 7: indent

    private static void indentPlace0() {
        refused("0", "indent 0", NONE);
        refused("0* 1 0", "indent 0", NONE);
        refused(FULL_FLAT, "indent 0", NONE);
    }

    private static void indentGreaterThanBefore() {
        refused("0 1", "indent 1", NONE);
        refused("0 1 2* 1", "indent 2", NONE);
        refused("0 0* 1", "indent 2", NONE);
        refused("0 0; indent 1", "indent 1", NONE);
        changes("0 0", "indent 1", 1, "0:0 1:1");
        changes("0 1 1", "indent 2", 2, "0:0 1:1 2:2");
        changes("0 1 0", "indent 2", 1, "0:0 1:1 2:1");
        changes("0 1 2 3 1 2 1", "indent 4", 2, "0:0 1:1 2:2 3:3 4:2 5:3 6:1");
        answers(FULL_FLAT, "indent 39", 1);
    }

    private static void indentWithALevel7() {
        refused(CHAIN + " 7", "indent 8", NONE);
        refused(CHAIN + " 7", "indent 7", NONE);
        refused(CHAIN + " 6 7", "indent 8", NONE);
        refused(CHAIN + " 6 7* 7", "indent 8", NONE);
        refused("0 0 1 2 3 4 5 6 7 1", "indent 1", NONE);
        refused("0 0 1 2 3 4 5 6 7", "indent 1", NONE);
        refused("0 0 1 1 2 3 4 5 6 7", "indent 1", NONE);
        changes(CHAIN + " 6", "indent 8", 7, "0:0 1:1 2:2 3:3 4:4 5:5 6:6 7:7 8:7");
        changes("0 0 1 2 3 4 5 6", "indent 1", 1, "0:0 1:1 2:2 3:3 4:4 5:5 6:6 7:7");
        // Levels 7 before the branch and behind it are not of the branch.
        changes(CHAIN + " 0 0 1 2 3 4 5 6 7", "indent 8", 1,
            "0:0 1:1 2:2 3:3 4:4 5:5 6:6 7:7 8:1 9:0 10:1 11:2 12:3 13:4 14:5 15:6 16:7");
    }

    // ---- Promise 8: outdent

    private static void outdentLevel0() {
        refused("0", "outdent 0", NONE);
        refused("0* 1 0", "outdent 0", NONE);
        refused("0* 1 0", "outdent 2", NONE);
        refused("0 1; outdent 1", "outdent 1", NONE);
        refused(FULL_FLAT, "outdent 39", NONE);
        changes("0 1", "outdent 1", 0, "0:0 1:0");
        changes("0 1 2* 1", "outdent 1", 0, "0:0 1:0 2:1* 3:1");
        changes(CHAIN, "outdent 7", 6, "0:0 1:1 2:2 3:3 4:4 5:5 6:6 7:6");
        changes(CHAIN, "outdent 1", 0, "0:0 1:0 2:1 3:2 4:3 5:4 6:5 7:6");
        answers(FULL_UNDER_ONE, "outdent 39", 0);
    }

    // ---- Promise 9: up

    private static void upWithNoBrotherBefore() {
        refused("0", "up 0", NONE);
        refused("0* 0", "up 0", NONE);
        refused("0* 1", "up 1", NONE);
        refused("0 1 2*", "up 2", NONE);
        refused("0 1 0* 1", "up 3", NONE);
        refused("0 1 2 1* 2", "up 4", NONE);
        refused("0 1 2 0 1 2", "up 5", NONE);
        refused(CHAIN, "up 7", NONE);
    }

    private static void upBeforeTheNearestBrother() {
        changes("0 0", "up 1", 0, "1:0 0:0");
        changes("0 0 0*", "up 2", 1, "0:0 2:0* 1:0");
        changes("0* 1 2 0 1*", "up 3", 0, "3:0 4:1* 0:0* 1:1 2:2");
        changes("0 1 2 3 1 0", "up 4", 1, "0:0 4:1 1:1 2:2 3:3 5:0");
        answers(FULL_FLAT, "up 39", 38);
        answers(FULL_FLAT, "up 1", 0);
        changes("0 1 1 0 1; remove 3", "up 2", 1, "0:0 2:1 1:1");
    }

    // ---- Promise 10: down

    private static void downWithNoneOfTheSameLevelBehind() {
        refused("0", "down 0", NONE);
        refused("0 0*", "down 1", NONE);
        refused("0 1* 2", "down 0", NONE);
        refused("0 1 0*", "down 1", NONE);
        refused("0 1 2* 1", "down 2", NONE);
        refused("0 1 2 0", "down 1", NONE);
        refused("0 0; remove 1", "down 0", NONE);
        refused("0 1 0 1; remove 2", "down 0", NONE);
        refused(FULL_FLAT, "down 39", NONE);
        refused(FULL_UNDER_ONE, "down 0", NONE);
    }

    private static void downBehindTheNext() {
        changes("0 0", "down 0", 1, "1:0 0:0");
        changes("0* 0 0", "down 0", 1, "1:0 0:0* 2:0");
        changes("0 0 1* 2", "down 0", 3, "1:0 2:1* 3:2 0:0");
        changes("0* 1 2 0 1*", "down 0", 2, "3:0 4:1* 0:0* 1:1 2:2");
        changes("0 1 2 1 0", "down 1", 2, "0:0 3:1 1:1 2:2 4:0");
        answers(FULL_FLAT, "down 38", 39);
        answers(FULL_FLAT, "down 0", 1);
    }

    // ---- Promise 11: moveUnder

    private static void moveUnderPlacesFirst() {
        // Each of these would be refused with NONE too, were the place there.
        refused("0 1", "moveUnder 2 2", BAD_ARG);
        refused("0 1", "moveUnder -1 -1", BAD_ARG);
        refused("0 1; remove 1", "moveUnder 1 1", BAD_ARG);
        refused("0 1; remove 1", "moveUnder 0 1", BAD_ARG);
        refused("0 1 2", "moveUnder 0 3", BAD_ARG);
        refused(CHAIN + "; remove 7", "moveUnder 0 7", BAD_ARG);
        refused(CHAIN + " 0; remove 8", "moveUnder 8 7", BAD_ARG);
        refused("0 0", "moveUnder 0 2", BAD_ARG);
        refused("0 0", "moveUnder 2 0", BAD_ARG);
        refused("0 0", "moveUnder -1 2", BAD_ARG);
        refused("", "moveUnder 0 0", BAD_ARG);
    }

    private static void moveUnderItsOwnBranch() {
        refused("0", "moveUnder 0 0", NONE);
        refused("0 0* 1 2 0", "moveUnder 1 1", NONE);
        refused("0 0* 1 2 0", "moveUnder 1 2", NONE);
        refused("0 0* 1 2 0", "moveUnder 1 3", NONE);
        refused(FULL_UNDER_ONE, "moveUnder 0 39", NONE);
        changes("0 0* 1 2 0", "moveUnder 1 4", 2, "0:0 4:0 1:1* 2:2 3:3");
        changes("0 0* 1 2 0", "moveUnder 1 0", 1, "0:0 1:1* 2:2 3:3 4:0");
    }

    private static void moveUnderAbove7() {
        refused(CHAIN + " 0", "moveUnder 8 7", NONE);
        refused(CHAIN + " 0* 1", "moveUnder 8 6", NONE);
        refused("0* 1 " + CHAIN, "moveUnder 0 8", NONE);
        refused("0* 1 2 1 " + CHAIN, "moveUnder 0 9", NONE);
        refused("0 " + CHAIN, "moveUnder 1 0", NONE);
        refused(CHAIN + " 7", "moveUnder 8 7", NONE);
        refused(CHAIN + " 7", "moveUnder 7 8", NONE);
        // The first heading alone, one behind it, and one in the middle reach level 7.
        changes(CHAIN + " 0", "moveUnder 8 6", 8, "0:0 1:1 2:2 3:3 4:4 5:5 6:6 7:7 8:7");
        changes(CHAIN + " 0* 1", "moveUnder 8 5", 8, "0:0 1:1 2:2 3:3 4:4 5:5 6:6 7:7 8:6* 9:7");
        changes("0* 1 2 1 0 1 2 3 4", "moveUnder 0 8", 5,
            "4:0 5:1 6:2 7:3 8:4 0:5* 1:6 2:7 3:6");
        changes("0 0 1 2 3 4 5 6", "moveUnder 1 0", 1, "0:0 1:1 2:2 3:3 4:4 5:5 6:6 7:7");
        // A branch with a 7 that stays so or rises may move.
        changes(CHAIN + " 6", "moveUnder 7 8", 8, "0:0 1:1 2:2 3:3 4:4 5:5 6:6 8:6 7:7");
        changes(CHAIN + " 0", "moveUnder 2 8", 3, "0:0 1:1 8:0 2:1 3:2 4:3 5:4 6:5 7:6");
    }

    // Both tests behind the places answer the same code, so an input for both shows no more.
    private static void moveUnderTestsInOrder() {
        refused(CHAIN, "moveUnder 7 7", NONE);
        refused(CHAIN, "moveUnder 1 7", NONE);
        refused(CHAIN, "moveUnder 7 8", BAD_ARG);
        refused(CHAIN, "moveUnder 8 7", BAD_ARG);
    }

    private static void moveUnderBehindTheBranchWithoutIt() {
        changes("0 1", "moveUnder 1 0", 1, "0:0 1:1");
        changes("0 1 1 2 0", "moveUnder 1 0", 3, "0:0 2:1 3:2 1:1 4:0");
        changes("0 1 1 2 0", "moveUnder 3 0", 3, "0:0 1:1 2:1 3:1 4:0");
        changes("0 1 2* 3 1 0", "moveUnder 2 0", 3, "0:0 1:1 4:1 2:1* 3:2 5:0");
        changes("0 1* 0 1", "moveUnder 3 0", 2, "0:0 1:1* 3:1 2:0");
        changes("0 1* 0 1", "moveUnder 0 2", 2, "2:0 3:1 0:1 1:2*");
        changes("0 1* 0 1", "moveUnder 0 3", 2, "2:0 3:1 0:2 1:3*");
        changes("0 0", "moveUnder 0 1", 1, "1:0 0:1");
        changes("0 0", "moveUnder 1 0", 1, "0:0 1:1");
        answers(FULL_FLAT, "moveUnder 0 39", 39);
        answers(FULL_FLAT, "moveUnder 39 0", 1);
        answers(FULL_UNDER_ONE, "moveUnder 1 0", 39);
    }

    // ---- Promises 12 to 14: fold, foldLevel, reveal

    private static void foldOnNot0() {
        for (int on : new int[] {1, -1, 2, 256, 65536, GREATEST, LEAST}) {
            changes("0 1", "fold 0 " + on, 0, "0:0* 1:1");
            changes("0* 1", "fold 0 " + on, 1, "0:0* 1:1");
        }
        changes("0 1*", "fold 1 0", 1, "0:0 1:1");
        changes("0 1*", "fold 0 0", 0, "0:0 1:1*");
        changes("0 1", "fold 1 1", 0, "0:0 1:1*");
        answers(FULL_FLAT + "; fold 39 1", "fold 39 0", 1);
    }

    private static void foldLevelNot0To7() {
        for (int level : NO_LEVELS) {
            refused("", "foldLevel " + level, BAD_ARG);
            refused("0* 1 2* 3 0*", "foldLevel " + level, BAD_ARG);
            refused(FULL_UNDER_ONE, "foldLevel " + level, BAD_ARG);
        }
        for (int level = 0; level <= 7; level++) {
            answers("", "foldLevel " + level, 0);
        }
        changes("0 1 2*", "foldLevel 0", 1, "0:0* 1:1 2:2");
        changes("0* 1 2*", "foldLevel 7", 0, "0:0 1:1 2:2");
    }

    private static void foldLevelThoseWithSomeUnder() {
        changes("0* 0 1 0*", "foldLevel 0", 1, "0:0 1:0* 2:1 3:0");
        changes("0 1 2 1* 0 1 2", "foldLevel 1", 2, "0:0 1:1* 2:2 3:1 4:0 5:1* 6:2");
        changes("0* 1*", "foldLevel 1", 0, "0:0 1:1");
        changes("0* 1*; remove 1", "foldLevel 0", 0, "0:0");
        answers(CHAIN, "foldLevel 6", 1);
        answers(CHAIN, "foldLevel 7", 0);
        answers(FULL_UNDER_ONE, "foldLevel 0", 1);
        answers(FULL_UNDER_ONE, "foldLevel 1", 0);
        answers("0 1" + " 0 1".repeat(19), "foldLevel 0", 20);
    }

    private static void foldLevelUnfoldsAllOthers() {
        changes("0* 1* 2* 3* 1* 0*", "foldLevel 1", 1, "0:0 1:1* 2:2 3:3 4:1 5:0");
        changes("0* 1* 2*", "foldLevel 5", 0, "0:0 1:1 2:2");
        changes("0* 1* 2*", "foldLevel 0", 1, "0:0* 1:1 2:2");
    }

    private static void revealThoseItIsUnder() {
        changes("0* 1* 2*", "reveal 2", 2, "0:0 1:1 2:2*");
        changes("0* 1* 2*", "reveal 1", 1, "0:0 1:1* 2:2*");
        changes("0* 1* 2*", "reveal 0", 0, "0:0* 1:1* 2:2*");
        changes("0* 1* 2* 1* 2", "reveal 4", 2, "0:0 1:1* 2:2* 3:1 4:2");
        changes("0* 1* 0* 1*", "reveal 3", 1, "0:0* 1:1* 2:0 3:1*");
        changes("0 1* 2 3", "reveal 3", 1, "0:0 1:1 2:2 3:3");
        changes("0 1 2", "reveal 2", 0, "0:0 1:1 2:2");
        answers("0* 1* 2* 3* 4* 5* 6* 7*", "reveal 7", 7);
        answers("0* 1* 2; reveal 2", "rowOf 2", 2);
        answers("0* 1* 2; reveal 2", "reveal 2", 0);
        answers(FULL_UNDER_ONE, "reveal 39", 1);
    }

    // ---- Promises 15 to 23: the calls that only ask

    private static void sizeIsN() {
        asks("", "size", 0);
        asks("0* 1 2", "size", 3);
        asks(FULL_UNDER_ONE, "size", 40);
    }

    private static void nameAtFirstAndLastPlace() {
        asks("0", "name 0", 0);
        asks("0 0; remove 0", "name 0", 1);
        asks(FULL_FLAT, "name 0", 0);
        asks(FULL_FLAT, "name 39", 39);
        asks(FULL_FLAT + "; remove 0; add 0", "name 39", 40);
    }

    private static void levelAtFirstAndLastPlace() {
        asks(CHAIN, "level 0", 0);
        asks(CHAIN, "level 7", 7);
        asks(FULL_DEEP, "level 39", 7);
    }

    private static void placeOfNoName() {
        asks("", "place 0", NONE);
        asks("0 0", "place 2", NONE);
        asks("0 0", "place -1", NONE);
        asks("0 0; remove 0", "place 0", NONE);
        asks("0 0; remove 1", "place 1", NONE);
        asks("0 1; dissolve 0", "place 0", NONE);
        asks("0 1 2; remove 0", "place 2", NONE);
        asks(FULL_FLAT, "place 40", NONE);
        for (int name : FAR) {
            asks("0 0", "place " + name, NONE);
        }
        asks("0 0", "place 0", 0);
        asks("0 0", "place 1", 1);
        asks("0 0; remove 0", "place 1", 0);
        asks(FULL_FLAT, "place 39", 39);
    }

    private static void parentOfLevel0() {
        asks("0", "parent 0", NONE);
        asks("0 1 0", "parent 2", NONE);
        asks(FULL_FLAT, "parent 39", NONE);
        asks("0 1", "parent 1", 0);
        asks("0 1; outdent 1", "parent 1", NONE);
        asks("0 0; indent 1", "parent 1", 0);
    }

    private static void underNone() {
        asks("0", "under 0", 0);
        asks("0 1", "under 1", 0);
        asks("0* 1", "under 0", 1);
        asks("0 1; remove 1", "under 0", 0);
        asks(FULL_FLAT, "under 39", 0);
        asks(FULL_UNDER_ONE, "under 0", 39);
    }

    private static void rowsOfNoneAndAll() {
        asks("", "rows", 0);
        asks("0*", "rows", 1);
        asks("0* 1* 2", "rows", 1);
        asks("0 1* 2", "rows", 2);
        asks("0; remove 0", "rows", 0);
        asks(FULL_FLAT, "rows", 40);
        asks(FULL_UNDER_ONE, "rows", 1);
        answers(FULL_UNDER_ONE + "; fold 0 0", "rows", 40);
    }

    private static void rowOfNoNumber() {
        asks("", "row 0", NONE);
        asks("0", "row 1", NONE);
        asks("0", "row -1", NONE);
        asks("0* 1 0", "row 2", NONE);
        asks("0* 1 0", "row 1", 2);
        asks("0 0; remove 1", "row 1", NONE);
        asks(FULL_FLAT, "row 39", 39);
        asks(FULL_FLAT, "row 40", NONE);
        asks(FULL_UNDER_ONE, "row 1", NONE);
        for (int r : FAR) {
            asks("0 0", "row " + r, NONE);
        }
    }

    private static void rowOfNotVisible() {
        asks("0* 1", "rowOf 1", NONE);
        asks("0* 1", "rowOf 0", 0);
        asks("0* 1* 2 1 0", "rowOf 2", NONE);
        asks("0* 1* 2 1 0", "rowOf 3", NONE);
        asks("0* 1* 2 1 0", "rowOf 4", 1);
        asks(FULL_UNDER_ONE, "rowOf 39", NONE);
        asks("0* 1", "rowOf 2", BAD_ARG);
    }

    private static void run(String text, Runnable test) {
        sentence = text;
        try {
            test.run();
        } catch (RuntimeException e) {
            due("thrown", e, "nothing");
        }
    }

    private static void runTerms() {
        run("What it is: at most 512 calls", BoundaryTest::all512Calls);
        run("Terms: 0 <= n <= 40, at the places 0 to n - 1", BoundaryTest::sizesFrom0To40);
        run("Terms: 0 for the first heading ever made, 1 for the next", BoundaryTest::namesFrom0On);
        run("Terms: Always (small outlines)", BoundaryTest::levelsOfAllSmallOutlines);
        run("Terms: Always (deep outlines)", BoundaryTest::levelsOfAllDeepOutlines);
        run("Terms: the branch ends (or up to the end)", BoundaryTest::branchUpToTheEnd);
        run("Terms: the first place with no greater level", BoundaryTest::branchUpToNotGreater);
        run("Terms: under it, and is not i", BoundaryTest::underIsNotItself);
        run("Terms: the parent is the nearest one before", BoundaryTest::parentIsTheNearest);
        run("Terms: visible if under no folded heading", BoundaryTest::visibleUnderNoFolded);
        run("Terms: rows, numbered from 0 on", BoundaryTest::rowsNumberedFrom0);
        run("Terms: together, in order, with their folds", BoundaryTest::movedTogether);
        run("Terms: is folded or not", BoundaryTest::foldsStay);
        for (String call : PLACE_CALLS) {
            run("Terms: no such place answers BAD_ARG: " + call, () -> noSuchPlace(call));
        }
        run("Terms: no call ever throws", BoundaryTest::neverThrows);
        run("Terms: the constants", BoundaryTest::constants);
    }

    private static void runMaking() {
        run("1: no heading was made yet", BoundaryTest::newObject);
        run("2: at the end, not folded", BoundaryTest::addMakesAtTheEndNotFolded);
        run("2: level not 0 to 7 answers BAD_ARG", BoundaryTest::addLevelNot0To7);
        run("2: FULL", BoundaryTest::addToFull);
        run("2: level more than one greater answers NONE", BoundaryTest::addMoreThanOneGreater);
        run("2: or, if there is none, greater than 0", BoundaryTest::addGreaterThan0ToNone);
        run("2: tested in this order", BoundaryTest::addTestsInOrder);
        run("3: directly behind the branch, not folded", BoundaryTest::addAfterBehindTheBranch);
        run("3: FULL", BoundaryTest::addAfterToFull);
        run("3: the place is tested first", BoundaryTest::addAfterPlaceBeforeFull);
        run("4: directly behind the heading, not folded", BoundaryTest::addUnderBehindTheHeading);
        run("4: FULL", BoundaryTest::addUnderToFull);
        run("4: the level at i is 7 answers NONE", BoundaryTest::addUnderLevel7);
        run("4: tested in this order", BoundaryTest::addUnderTestsInOrder);
        run("5: the number of headings removed", BoundaryTest::removeAnswersTheNumber);
        run("6: how many were under it", BoundaryTest::dissolveAnswersHowManyWereUnder);
    }

    private static void runMoving() {
        run("7: NONE if i is 0", BoundaryTest::indentPlace0);
        run("7: NONE if the level is greater than at i - 1", BoundaryTest::indentGreaterThanBefore);
        run("7: NONE if some heading has level 7", BoundaryTest::indentWithALevel7);
        run("8: NONE if the level at i is 0", BoundaryTest::outdentLevel0);
        run("9: NONE if there is no brother before", BoundaryTest::upWithNoBrotherBefore);
        run("9: the nearest place before i", BoundaryTest::upBeforeTheNearestBrother);
        run("10: NONE if not", BoundaryTest::downWithNoneOfTheSameLevelBehind);
        run("10: the branch directly behind it", BoundaryTest::downBehindTheNext);
        run("11: after i and j", BoundaryTest::moveUnderPlacesFirst);
        run("11: j is in the branch at i answers NONE", BoundaryTest::moveUnderItsOwnBranch);
        run("11: a level above 7 answers NONE", BoundaryTest::moveUnderAbove7);
        run("11: tested in this order", BoundaryTest::moveUnderTestsInOrder);
        run("11: as this is without the branch", BoundaryTest::moveUnderBehindTheBranchWithoutIt);
    }

    private static void runFoldsAndQuestions() {
        run("12: on not 0, on 0", BoundaryTest::foldOnNot0);
        run("13: BAD_ARG if level is not 0 to 7", BoundaryTest::foldLevelNot0To7);
        run("13: that have some heading under them", BoundaryTest::foldLevelThoseWithSomeUnder);
        run("13: unfolds all other headings", BoundaryTest::foldLevelUnfoldsAllOthers);
        run("14: how many were folded of them", BoundaryTest::revealThoseItIsUnder);
        run("15: n", BoundaryTest::sizeIsN);
        run("16: the name at place i", BoundaryTest::nameAtFirstAndLastPlace);
        run("17: the level at place i", BoundaryTest::levelAtFirstAndLastPlace);
        run("18: NONE if there is none", BoundaryTest::placeOfNoName);
        run("19: NONE if its level is 0", BoundaryTest::parentOfLevel0);
        run("20: the number under it", BoundaryTest::underNone);
        run("21: the number of rows", BoundaryTest::rowsOfNoneAndAll);
        run("22: NONE if there is none", BoundaryTest::rowOfNoNumber);
        run("23: NONE if it is not visible", BoundaryTest::rowOfNotVisible);
    }

    public static void main(String[] args) {
        runTerms();
        runMaking();
        runMoving();
        runFoldsAndQuestions();
        if (wrong != 0) {
            System.exit(1);
        }
    }
}
