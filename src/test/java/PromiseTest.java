// One method for each promise of the document: ordinary inputs, its edges and wrong inputs.
public final class PromiseTest {
    private static final int BAD_ARG = -1;
    private static final int FULL = -2;
    private static final int NONE = -4;
    private static final int[] NO_PLACES_OF_THREE = {
        -1, 3, 4, 39, 40, 41, Integer.MAX_VALUE, Integer.MIN_VALUE
    };
    private static final int[] NO_LEVELS = {-1, 8, Integer.MAX_VALUE, Integer.MIN_VALUE};

    private static int wrong = 0;

    private interface Call {
        int on(OutlineEditor x, int i);
    }

    private static void due(String what, Object got, Object want) {
        if (!got.equals(want)) {
            wrong++;
            System.out.println(what + ": got " + got + ", due is " + want);
        }
    }

    // Headings in order, each as name:level, with * for a folded one. Every fold read is put back.
    private static String show(OutlineEditor x) {
        StringBuilder text = new StringBuilder();
        int n = x.size();
        for (int i = 0; i < n; i++) {
            int folded = x.fold(i, 0);
            x.fold(i, folded);
            text.append(i == 0 ? "" : " ").append(x.name(i)).append(':').append(x.level(i));
            text.append(folded == 1 ? "*" : "");
        }
        return text.toString();
    }

    private static OutlineEditor outline(int... levels) {
        OutlineEditor x = new OutlineEditor();
        for (int k = 0; k < levels.length; k++) {
            due("outline: add(" + levels[k] + ")", x.add(levels[k]), k);
        }
        return x;
    }

    private static OutlineEditor full() {
        OutlineEditor x = new OutlineEditor();
        for (int k = 0; k < 40; k++) {
            due("full: add(0)", x.add(0), k);
        }
        return x;
    }

    private static void refused(String what, OutlineEditor x, Call call, int i, int code) {
        String before = show(x);
        due(what + " with " + i, call.on(x, i), code);
        due(what + " with " + i + " changes nothing", show(x), before);
    }

    private static void refusesNoPlaces(String what, Call call) {
        due(what + " with 0 on none", call.on(new OutlineEditor(), 0), BAD_ARG);
        for (int i : NO_PLACES_OF_THREE) {
            OutlineEditor x = outline(0, 1, 1);
            x.fold(0, 1);
            refused(what, x, call, i, BAD_ARG);
            due(what + " refused makes no heading", x.add(0), 3);
        }
    }

    private static void promise1NewObject() {
        OutlineEditor x = new OutlineEditor();
        due("1: size", x.size(), 0);
        due("1: rows", x.rows(), 0);
        due("1: first name", x.add(0), 0);
        OutlineEditor other = new OutlineEditor();
        due("1: objects are apart", other.size(), 0);
        due("1: names are apart", other.add(0), 0);
        due("1: BAD_ARG", OutlineEditor.BAD_ARG, BAD_ARG);
        due("1: FULL", OutlineEditor.FULL, FULL);
        due("1: NONE", OutlineEditor.NONE, NONE);
    }

    private static void promise2Add() {
        OutlineEditor x = new OutlineEditor();
        for (int level : NO_LEVELS) {
            refused("2: add", x, OutlineEditor::add, level, BAD_ARG);
        }
        for (int level = 1; level <= 7; level++) {
            refused("2: add to none", x, OutlineEditor::add, level, NONE);
        }
        due("2: refused calls make no name", x.add(0), 0);
        refused("2: add two deeper", x, OutlineEditor::add, 2, NONE);
        for (int level = 1; level <= 7; level++) {
            due("2: add one deeper", x.add(level), level);
        }
        refused("2: add below the deepest", x, OutlineEditor::add, 8, BAD_ARG);
        due("2: add at the same level", x.add(7), 8);
        due("2: add much less deep", x.add(2), 9);
        refused("2: add two deeper", x, OutlineEditor::add, 4, NONE);
        due("2: add at the end", show(x), "0:0 1:1 2:2 3:3 4:4 5:5 6:6 7:7 8:7 9:2");

        OutlineEditor removed = outline(0, 0);
        removed.remove(1);
        due("2: a name is given once", removed.add(0), 2);
        removed.remove(0);
        removed.remove(0);
        refused("2: add to none again", removed, OutlineEditor::add, 1, NONE);
        due("2: a name is given once, after all went", removed.add(0), 3);

        // The place at the end was used and folded before: the new heading has no fold from it.
        OutlineEditor reused = outline(0, 1);
        reused.fold(1, 1);
        reused.remove(1);
        reused.add(1);
        due("2: not folded", show(reused), "0:0 2:1");
    }

    private static void promise2AddToFull() {
        due("2: bad level before FULL", full().add(8), BAD_ARG);
        due("2: negative level before FULL", full().add(-1), BAD_ARG);
        due("2: FULL before NONE", full().add(2), FULL);
        OutlineEditor x = full();
        refused("2: add to a full one", x, OutlineEditor::add, 0, FULL);
        due("2: full size", x.size(), 40);
        due("2: room again", x.remove(7), 1);
        due("2: add into the room", x.add(1), 40);
        due("2: full again", x.add(0), FULL);
    }

    private static void promise3AddAfter() {
        OutlineEditor x = outline(0, 1, 2, 1, 0);
        x.fold(1, 1);
        x.fold(3, 1);
        due("3: addAfter", x.addAfter(1), 5);
        due("3: behind the branch", show(x), "0:0 1:1* 2:2 5:1 3:1* 4:0");
        due("3: addAfter", x.addAfter(0), 6);
        due("3: behind the long branch", show(x), "0:0 1:1* 2:2 5:1 3:1* 6:0 4:0");
        due("3: addAfter the last", x.addAfter(6), 7);
        due("3: at the end", show(x), "0:0 1:1* 2:2 5:1 3:1* 6:0 4:0 7:0");
        OutlineEditor deep = outline(0, 1, 2, 3, 4, 5, 6, 7);
        due("3: addAfter level 7", deep.addAfter(7), 8);
        due("3: level 7", deep.level(8), 7);
        refusesNoPlaces("3: addAfter", OutlineEditor::addAfter);
        refused("3: addAfter in a full one", full(), OutlineEditor::addAfter, 3, FULL);
        due("3: the place before FULL", full().addAfter(40), BAD_ARG);
    }

    private static void promise4AddUnder() {
        OutlineEditor x = outline(0, 1, 0);
        x.fold(0, 1);
        x.fold(1, 1);
        due("4: addUnder", x.addUnder(0), 3);
        due("4: directly behind", show(x), "0:0* 3:1 1:1* 2:0");
        due("4: addUnder the last", x.addUnder(3), 4);
        due("4: at the end", show(x), "0:0* 3:1 1:1* 2:0 4:1");
        OutlineEditor deep = outline(0, 1, 2, 3, 4, 5, 6, 7);
        refused("4: addUnder level 7", deep, OutlineEditor::addUnder, 7, NONE);
        due("4: addUnder level 6", deep.addUnder(6), 8);
        due("4: level 7", show(deep), "0:0 1:1 2:2 3:3 4:4 5:5 6:6 8:7 7:7");
        refusesNoPlaces("4: addUnder", OutlineEditor::addUnder);
        refused("4: addUnder in a full one", full(), OutlineEditor::addUnder, 3, FULL);
        due("4: the place before FULL", full().addUnder(-1), BAD_ARG);
        OutlineEditor both = outline(0, 1, 2, 3, 4, 5, 6, 7);
        for (int k = 8; k < 40; k++) {
            both.add(7);
        }
        due("4: FULL before NONE", both.addUnder(7), FULL);
    }

    private static void promise5Remove() {
        OutlineEditor x = outline(0, 1, 2, 2, 1, 0, 1);
        x.fold(4, 1);
        due("5: remove", x.remove(1), 3);
        due("5: the branch went", show(x), "0:0 4:1* 5:0 6:1");
        due("5: remove the last", x.remove(3), 1);
        due("5: the last went", show(x), "0:0 4:1* 5:0");
        due("5: remove the first", x.remove(0), 2);
        due("5: the first went", show(x), "5:0");
        due("5: remove all", x.remove(0), 1);
        due("5: none left", x.size(), 0);
        refusesNoPlaces("5: remove", OutlineEditor::remove);
        OutlineEditor whole = outline(0, 1, 1, 2);
        due("5: remove up to the end", whole.remove(0), 4);
        due("5: none left of the whole", whole.size(), 0);
    }

    private static void promise6Dissolve() {
        OutlineEditor x = outline(0, 1, 2, 3, 2, 1, 0);
        x.fold(2, 1);
        x.fold(1, 1);
        due("6: dissolve", x.dissolve(1), 3);
        due("6: those under it rise", show(x), "0:0 2:1* 3:2 4:1 5:1 6:0");
        due("6: dissolve the first", x.dissolve(0), 4);
        due("6: those under the first rise", show(x), "2:0* 3:1 4:0 5:0 6:0");
        due("6: dissolve with none under", x.dissolve(2), 0);
        due("6: it alone went", show(x), "2:0* 3:1 5:0 6:0");
        due("6: dissolve the last", x.dissolve(3), 0);
        due("6: the last went", show(x), "2:0* 3:1 5:0");
        refusesNoPlaces("6: dissolve", OutlineEditor::dissolve);
    }

    private static void promise7Indent() {
        OutlineEditor x = outline(0, 0, 1, 2, 0, 1);
        x.fold(2, 1);
        refused("7: indent the first", x, OutlineEditor::indent, 0, NONE);
        refused("7: indent one deeper already", x, OutlineEditor::indent, 2, NONE);
        due("7: indent", x.indent(1), 1);
        due("7: the branch sinks", show(x), "0:0 1:1 2:2* 3:3 4:0 5:1");
        due("7: indent behind a deeper one", x.indent(4), 1);
        due("7: the branch sinks to the end", show(x), "0:0 1:1 2:2* 3:3 4:1 5:2");
        due("7: indent again", x.indent(4), 2);
        due("7: indent again", x.indent(4), 3);
        due("7: as deep as the one before", show(x), "0:0 1:1 2:2* 3:3 4:3 5:4");
        refusesNoPlaces("7: indent", OutlineEditor::indent);

        OutlineEditor deep = outline(0, 1, 2, 3, 4, 5, 6, 7, 7, 6, 7, 6, 5);
        refused("7: indent level 7", deep, OutlineEditor::indent, 8, NONE);
        refused("7: indent over a level 7", deep, OutlineEditor::indent, 9, NONE);
        due("7: indent to level 7", deep.indent(11), 7);
        due("7: indent to level 6", deep.indent(12), 6);
        due("7: indent to level 7 too", deep.indent(12), 7);
        refused("7: indent below 7", deep, OutlineEditor::indent, 12, NONE);
        // The level 7 that counts may stand before others of the branch that are less deep.
        OutlineEditor inside = outline(0, 1, 2, 3, 4, 4, 5, 6, 7, 5);
        refused("7: indent with a 7 inside", inside, OutlineEditor::indent, 5, NONE);
    }

    private static void promise8Outdent() {
        OutlineEditor x = outline(0, 1, 2, 3, 2, 1, 0);
        x.fold(3, 1);
        refused("8: outdent level 0", x, OutlineEditor::outdent, 0, NONE);
        refused("8: outdent level 0 at the end", x, OutlineEditor::outdent, 6, NONE);
        due("8: outdent", x.outdent(2), 1);
        due("8: the branch rises", show(x), "0:0 1:1 2:1 3:2* 4:2 5:1 6:0");
        due("8: takes what follows under it", x.under(2), 2);
        due("8: outdent to level 0", x.outdent(2), 0);
        due("8: all of the branch", show(x), "0:0 1:1 2:0 3:1* 4:1 5:1 6:0");
        refused("8: outdent at 0", x, OutlineEditor::outdent, 2, NONE);
        OutlineEditor last = outline(0, 1, 2);
        due("8: outdent the last", last.outdent(2), 1);
        due("8: the last rises", show(last), "0:0 1:1 2:1");
        refusesNoPlaces("8: outdent", OutlineEditor::outdent);
    }

    private static void promise9Up() {
        OutlineEditor x = outline(0, 1, 2, 3, 1, 2, 2, 0);
        x.fold(1, 1);
        x.fold(5, 1);
        refused("9: up the first", x, OutlineEditor::up, 0, NONE);
        refused("9: up a first child", x, OutlineEditor::up, 1, NONE);
        refused("9: a lesser one between", x, OutlineEditor::up, 5, NONE);
        due("9: up", x.up(4), 1);
        due("9: before the brother's branch", show(x), "0:0 4:1 5:2* 6:2 1:1* 2:2 3:3 7:0");
        due("9: up to the very first", x.up(7), 0);
        due("9: before all", show(x), "7:0 0:0 4:1 5:2* 6:2 1:1* 2:2 3:3");
        due("9: up by one", x.up(4), 3);
        due("9: leaves changed", show(x), "7:0 0:0 4:1 6:2 5:2* 1:1* 2:2 3:3");
        refusesNoPlaces("9: up", OutlineEditor::up);
    }

    private static void promise10Down() {
        OutlineEditor x = outline(0, 1, 2, 3, 1, 2, 2, 0);
        x.fold(1, 1);
        x.fold(5, 1);
        refused("10: down a last child", x, OutlineEditor::down, 4, NONE);
        refused("10: down an only child", x, OutlineEditor::down, 3, NONE);
        refused("10: down the last", x, OutlineEditor::down, 7, NONE);
        due("10: down", x.down(1), 4);
        due("10: branches changed", show(x), "0:0 4:1 5:2* 6:2 1:1* 2:2 3:3 7:0");
        due("10: down to the very last", x.down(0), 1);
        due("10: behind all", show(x), "7:0 0:0 4:1 5:2* 6:2 1:1* 2:2 3:3");
        due("10: down by one", x.down(3), 4);
        due("10: leaves changed", show(x), "7:0 0:0 4:1 6:2 5:2* 1:1* 2:2 3:3");
        refused("10: down at the end", x, OutlineEditor::down, 1, NONE);
        refusesNoPlaces("10: down", OutlineEditor::down);
    }

    private static void promise11MoveUnder() {
        OutlineEditor x = outline(0, 1, 2, 0, 1, 0);
        x.fold(1, 1);
        x.fold(3, 1);
        due("11: to behind", x.moveUnder(1, 3), 3);
        due("11: moved to behind", show(x), "0:0 3:0* 4:1 1:1* 2:2 5:0");
        due("11: to before", x.moveUnder(3, 0), 1);
        due("11: moved to before", show(x), "0:0 1:1* 2:2 3:0* 4:1 5:0");
        due("11: under its parent", x.moveUnder(4, 3), 4);
        due("11: an only child stays", show(x), "0:0 1:1* 2:2 3:0* 4:1 5:0");
        due("11: sinks where it stands", x.moveUnder(3, 2), 3);
        due("11: sunk by three", show(x), "0:0 1:1* 2:2 3:3* 4:4 5:0");
        due("11: under a far ancestor", x.moveUnder(4, 0), 4);
        due("11: risen by three", show(x), "0:0 1:1* 2:2 3:3* 4:1 5:0");
        due("11: behind its brothers", x.moveUnder(1, 0), 2);
        due("11: a first child becomes the last", show(x), "0:0 4:1 1:1* 2:2 3:3* 5:0");
        due("11: the first to the end", x.moveUnder(0, 5), 1);
        due("11: all under the last", show(x), "5:0 0:1 4:2 1:2* 2:3 3:4*");
        refused("11: under itself", x, (y, i) -> y.moveUnder(i, i), 1, NONE);
        refused("11: under its own", x, (y, i) -> y.moveUnder(i, 5), 1, NONE);
        refused("11: under its first own", x, (y, i) -> y.moveUnder(i, 1), 0, NONE);
    }

    private static void promise11MoveUnderRefused() {
        OutlineEditor x = outline(0, 1, 2, 3, 4, 5, 6, 7, 6, 0, 1, 0);
        refused("11: under level 7", x, (y, i) -> y.moveUnder(i, 7), 11, NONE);
        refused("11: a child above 7", x, (y, i) -> y.moveUnder(i, 6), 9, NONE);
        refused("11: under itself, before the level", x, (y, i) -> y.moveUnder(i, i), 7, NONE);
        due("11: under level 6", x.moveUnder(11, 6), 8);
        due("11: now level 7", x.level(8), 7);
        due("11: a child at 7", x.moveUnder(10, 5), 10);
        due("11: both moved", show(x), "0:0 1:1 2:2 3:3 4:4 5:5 6:6 7:7 11:7 8:6 9:6 10:7");
        refusesNoPlaces("11: moveUnder(i, 0)", (y, i) -> y.moveUnder(i, 0));
        refusesNoPlaces("11: moveUnder(0, j)", (y, j) -> y.moveUnder(0, j));
        refusesNoPlaces("11: moveUnder(i, i)", (y, i) -> y.moveUnder(i, i));
        // The deepest heading that goes too deep may stand before less deep ones.
        OutlineEditor inside = outline(0, 1, 2, 3, 4, 5, 0, 1, 2, 1);
        refused("11: one inside above 7", inside, (y, i) -> y.moveUnder(i, 5), 6, NONE);
        due("11: one inside at 7", inside.moveUnder(6, 4), 6);
    }

    private static void promise12Fold() {
        OutlineEditor x = outline(0, 1, 2);
        due("12: fold", x.fold(0, 1), 0);
        due("12: fold again", x.fold(0, 1), 1);
        due("12: one row", x.rows(), 1);
        due("12: unfold", x.fold(0, 0), 1);
        due("12: unfold again", x.fold(0, 0), 0);
        due("12: three rows", x.rows(), 3);
        for (int on : new int[] {1, -1, 2, 256, Integer.MAX_VALUE, Integer.MIN_VALUE}) {
            due("12: fold with " + on, x.fold(1, on), 0);
            due("12: folded by " + on, x.rows(), 2);
            due("12: unfold after " + on, x.fold(1, 0), 1);
        }
        due("12: fold one with none under", x.fold(2, 1), 0);
        due("12: it alone", show(x), "0:0 1:1 2:2*");
        refusesNoPlaces("12: fold", (y, i) -> y.fold(i, 1));
        refusesNoPlaces("12: unfold", (y, i) -> y.fold(i, 0));
    }

    private static void promise13FoldLevel() {
        OutlineEditor x = outline(0, 1, 2, 1, 0, 0, 1);
        x.fold(4, 1);
        x.fold(2, 1);
        due("13: foldLevel(0)", x.foldLevel(0), 2);
        due("13: level 0 folded", show(x), "0:0* 1:1 2:2 3:1 4:0 5:0* 6:1");
        due("13: foldLevel(1)", x.foldLevel(1), 1);
        due("13: level 1 folded", show(x), "0:0 1:1* 2:2 3:1 4:0 5:0 6:1");
        due("13: foldLevel(1) again", x.foldLevel(1), 1);
        for (int level : NO_LEVELS) {
            refused("13: foldLevel", x, OutlineEditor::foldLevel, level, BAD_ARG);
        }
        due("13: foldLevel(2)", x.foldLevel(2), 0);
        due("13: none folded", show(x), "0:0 1:1 2:2 3:1 4:0 5:0 6:1");
        due("13: foldLevel(7)", x.foldLevel(7), 0);
        OutlineEditor deep = outline(0, 1, 2, 3, 4, 5, 6, 7, 6, 7);
        due("13: foldLevel(6)", deep.foldLevel(6), 2);
        due("13: foldLevel on none", new OutlineEditor().foldLevel(0), 0);
        due("13: bad level on none", new OutlineEditor().foldLevel(8), BAD_ARG);
    }

    private static void promise14Reveal() {
        OutlineEditor x = outline(0, 1, 2, 1, 2, 3, 0);
        for (int i = 0; i < 7; i++) {
            x.fold(i, 1);
        }
        due("14: reveal", x.reveal(4), 2);
        due("14: those above it alone", show(x), "0:0 1:1* 2:2* 3:1 4:2* 5:3* 6:0*");
        due("14: visible now", x.rowOf(4), 3);
        due("14: reveal again", x.reveal(4), 0);
        due("14: reveal deeper", x.reveal(5), 1);
        due("14: deeper", show(x), "0:0 1:1* 2:2* 3:1 4:2 5:3* 6:0*");
        due("14: reveal level 0", x.reveal(6), 0);
        due("14: level 0", show(x), "0:0 1:1* 2:2* 3:1 4:2 5:3* 6:0*");
        due("14: reveal the first", x.reveal(0), 0);
        refusesNoPlaces("14: reveal", OutlineEditor::reveal);
    }

    private static void promise15Size() {
        OutlineEditor x = outline(0, 1, 0);
        due("15: size", x.size(), 3);
        x.fold(0, 1);
        due("15: folds don't count", x.size(), 3);
        x.addAfter(0);
        due("15: size after addAfter", x.size(), 4);
        x.addUnder(0);
        due("15: size after addUnder", x.size(), 5);
        x.dissolve(0);
        due("15: size after dissolve", x.size(), 4);
        due("15: full size", full().size(), 40);
    }

    private static void promise16Name() {
        OutlineEditor x = outline(0, 0, 0);
        x.up(2);
        due("16: name", x.name(1), 2);
        x.remove(0);
        due("16: name after remove", x.name(0), 2);
        due("16: the last name", full().name(39), 39);
        refusesNoPlaces("16: name", OutlineEditor::name);
    }

    private static void promise17Level() {
        OutlineEditor x = outline(0, 1, 2, 3, 4, 5, 6, 7);
        for (int i = 0; i < 8; i++) {
            due("17: level", x.level(i), i);
        }
        refusesNoPlaces("17: level", OutlineEditor::level);
    }

    private static void promise18Place() {
        OutlineEditor x = outline(0, 0, 1);
        x.up(1);
        due("18: place", x.place(0), 2);
        due("18: place", x.place(1), 0);
        due("18: place", x.place(2), 1);
        x.remove(0);
        due("18: place after remove", x.place(0), 0);
        for (int name : new int[] {1, 2, 3, -1, 40, 512, Integer.MAX_VALUE, Integer.MIN_VALUE}) {
            due("18: no such name " + name, x.place(name), NONE);
        }
        due("18: place on none", new OutlineEditor().place(0), NONE);
        due("18: the last place", full().place(39), 39);
    }

    private static void promise19Parent() {
        OutlineEditor x = outline(0, 1, 2, 2, 1, 0, 1);
        int[] parents = {NONE, 0, 1, 1, 0, NONE, 5};
        for (int i = 0; i < parents.length; i++) {
            due("19: parent of " + i, x.parent(i), parents[i]);
        }
        refusesNoPlaces("19: parent", OutlineEditor::parent);
    }

    private static void promise20Under() {
        OutlineEditor x = outline(0, 1, 2, 2, 1, 0, 1);
        int[] under = {4, 2, 0, 0, 0, 1, 0};
        for (int i = 0; i < under.length; i++) {
            due("20: under " + i, x.under(i), under[i]);
        }
        x.fold(1, 1);
        due("20: folds don't count", x.under(0), 4);
        refusesNoPlaces("20: under", OutlineEditor::under);
    }

    // Place 1 is folded and holds 2 to 4, with a fold inside; 6 is folded with none under.
    private static OutlineEditor partlyFolded() {
        OutlineEditor x = outline(0, 1, 2, 3, 2, 1, 0, 0, 1);
        x.fold(1, 1);
        x.fold(2, 1);
        x.fold(6, 1);
        return x;
    }

    private static void promise21Rows() {
        OutlineEditor x = partlyFolded();
        due("21: rows", x.rows(), 6);
        x.fold(1, 0);
        due("21: rows with the inner fold", x.rows(), 8);
        x.fold(0, 1);
        due("21: rows with the outer fold", x.rows(), 4);
        due("21: rows of none", new OutlineEditor().rows(), 0);
        due("21: rows of a full one", full().rows(), 40);
    }

    private static void promise22Row() {
        OutlineEditor x = partlyFolded();
        int[] places = {0, 1, 5, 6, 7, 8};
        for (int r = 0; r < places.length; r++) {
            due("22: row " + r, x.row(r), places[r]);
        }
        for (int r : new int[] {-1, 6, 8, 9, 40, Integer.MAX_VALUE, Integer.MIN_VALUE}) {
            due("22: no row " + r, x.row(r), NONE);
        }
        due("22: row of none", new OutlineEditor().row(0), NONE);
    }

    private static void promise23RowOf() {
        OutlineEditor x = partlyFolded();
        int[] rows = {0, 1, NONE, NONE, NONE, 2, 3, 4, 5};
        for (int i = 0; i < rows.length; i++) {
            due("23: rowOf " + i, x.rowOf(i), rows[i]);
        }
        refusesNoPlaces("23: rowOf", OutlineEditor::rowOf);
    }

    // Nothing may be read behind the 40th heading, where there is no more room.
    private static void upToTheLastPlace() {
        OutlineEditor x = outline(0);
        for (int k = 1; k < 40; k++) {
            x.add(1);
        }
        due("5 to 23, full: under the first", x.under(0), 39);
        due("5 to 23, full: under the last", x.under(39), 0);
        due("5 to 23, full: foldLevel(1)", x.foldLevel(1), 0);
        due("5 to 23, full: foldLevel(0)", x.foldLevel(0), 1);
        due("5 to 23, full: rows", x.rows(), 1);
        due("5 to 23, full: row", x.row(1), NONE);
        due("5 to 23, full: reveal", x.reveal(39), 1);
        due("5 to 23, full: rowOf", x.rowOf(39), 39);
        due("5 to 23, full: down", x.down(39), NONE);
        due("5 to 23, full: up", x.up(39), 38);
        due("5 to 23, full: down again", x.down(38), 39);
        due("5 to 23, full: indent", x.indent(39), 2);
        due("5 to 23, full: moveUnder", x.moveUnder(39, 0), 39);
        due("5 to 23, full: moveUnder the last", x.moveUnder(1, 39), 39);
        due("5 to 23, full: outdent", x.outdent(39), 1);
        due("5 to 23, full: dissolve", x.dissolve(39), 0);
        due("5 to 23, full: remove", x.remove(0), 39);
    }

    // What was removed from the end must not count as standing there still.
    private static void behindTheLastPlace() {
        OutlineEditor x = outline(0, 1, 2);
        x.remove(1);
        due("5 to 23, removed: under", x.under(0), 0);
        due("5 to 23, removed: foldLevel", x.foldLevel(0), 0);
        due("5 to 23, removed: down", outlineOfTwoLessOne().down(0), NONE);
        due("5 to 23, removed: rows", x.rows(), 1);
        due("5 to 23, removed: row", x.row(1), NONE);
        due("5 to 23, removed: place", x.place(1), NONE);
        due("5 to 23, removed: level", x.level(1), BAD_ARG);
    }

    private static OutlineEditor outlineOfTwoLessOne() {
        OutlineEditor x = outline(0, 0);
        x.remove(1);
        return x;
    }

    public static void main(String[] args) {
        promise1NewObject();
        promise2Add();
        promise2AddToFull();
        promise3AddAfter();
        promise4AddUnder();
        promise5Remove();
        promise6Dissolve();
        promise7Indent();
        promise8Outdent();
        promise9Up();
        promise10Down();
        promise11MoveUnder();
        promise11MoveUnderRefused();
        promise12Fold();
        promise13FoldLevel();
        promise14Reveal();
        promise15Size();
        promise16Name();
        promise17Level();
        promise18Place();
        promise19Parent();
        promise20Under();
        promise21Rows();
        promise22Row();
        promise23RowOf();
        upToTheLastPlace();
        behindTheLastPlace();
        if (wrong != 0) {
            System.exit(1);
        }
    }
}
