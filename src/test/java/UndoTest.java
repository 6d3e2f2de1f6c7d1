/** The promises 30 to 32: undo and the snapshot. */
public final class UndoTest {
    private static final Checks checks = new Checks();

    public static void main(String[] args) {
        undo();
        undoTakesBackAll();
        undoTakesBackNumbers();
        undoOfTheLatestEight();
        undoLeavesTheRest();
        snapshot();
        restore();
        checks.end("UndoTest");
    }

    private static void undo() {
        checks.about("promise 30");
        CloneOutliner x = new CloneOutliner();
        checks.due("none", Checks.STATE, x::undo);
        Checks.add(x, 0, 0, "a");
        x.setFlag(1, true, false);
        checks.due("a change of nothing is one", 2, () -> x.outline(9));
        checks.due("one left", 1, x::undo);
        checks.same("a", "a", Checks.paths(x));
        checks.due("none left", 0, x::undo);
        checks.same("nothing", "", Checks.paths(x));
        checks.due("none", Checks.STATE, x::undo);
        checks.due("no refused call", Checks.STATE, () -> {
            try {
                Checks.load(x, 0, "a;.*0");
            } catch (UnsupportedOperationException refused) {
                return x.undo();
            }
            return "";
        });
    }

    private static void undoTakesBackAll() {
        CloneOutliner x = Checks.outlineOf("a@3=4;.b;..c;d=1x;.*1;e");
        Checks.type(x, "z");
        takesBack("add", x, () -> x.add(2, 0));
        takesBack("clone", x, () -> x.clone(5, 2, 0));
        takesBack("detach", x, () -> x.detach(0, 0));
        takesBack("moveBlock", x, () -> x.moveBlock(0, 0, 1, 5, 0));
        takesBack("indent", x, () -> x.indent(x.lineOf(5)));
        takesBack("outdent", x, () -> x.outdent(2));
        Checks.type(x, "zzz");
        takesBack("rename", x, () -> x.rename(3));
        takesBack("setNumber", x, () -> x.setNumber(1, true, -1));
        takesBack("setNumber", x, () -> x.setNumber(0, false, 77));
        takesBack("setFlag", x, () -> x.setFlag(4, false, false));
        takesBack("setFlag", x, () -> x.setFlag(0, true, true));
        Checks.type(x, "f@1=2x;.g;*1");
        takesBack("load", x, () -> x.load(3));
        checks.due("one change is left", 1, () -> x.outline(9));
    }

    private static void takesBack(String what, CloneOutliner x, Checks.Call change) {
        String before = Checks.contents(x);
        int changes = x.outline(9);
        change.run();
        checks.due(what + " is a change", changes + 1, () -> x.outline(9));
        checks.same(what + " changes something", false, before.equals(Checks.contents(x)));
        checks.due("undo of " + what, changes, x::undo);
        checks.same(what + " is undone", before, Checks.contents(x));
    }

    private static void undoTakesBackNumbers() {
        CloneOutliner x = Checks.outlineOf("a;b");
        x.setFlag(2, false, true);
        x.setNumber(2, false, 3);
        x.undo();
        x.undo();
        x.undo();
        checks.due("none added", 0, () -> x.outline(1));
        checks.due("numbers come again", 1, () -> Checks.add(x, 0, 0, "c"));
        checks.due("numbers come again", 2, () -> Checks.add(x, 0, 0, "d"));
        checks.same("with nothing of the former ones", "1 0 1 1 0 -1 0 0 1 0 -1 -1 1 0 0", Checks.itemNumbers(x, 2));
        x.detach(0, 0);
        checks.due("not those of removed ones", 3, () -> Checks.add(x, 0, 0, "e"));
    }

    private static void undoOfTheLatestEight() {
        CloneOutliner x = Checks.outlineOf("a");
        for (int value = 1; value <= 20; value++) {
            x.setNumber(1, false, value);
            int count = Math.min(8, value + 1);
            checks.due("after " + value, count, () -> x.outline(9));
        }
        for (int value = 19; value >= 12; value--) {
            int left = value - 12;
            checks.due("left", left, x::undo);
            checks.due("value", value, () -> x.item(1, 4));
        }
        checks.due("no more", Checks.STATE, x::undo);
        checks.due("unchanged", 12, () -> x.item(1, 4));
        x.setNumber(1, false, -1);
        x.setNumber(1, false, -2);
        x.undo();
        x.setNumber(1, false, -3);
        checks.due("what was undone is gone", 1, x::undo);
        checks.due("before it", -1, () -> x.item(1, 4));
        checks.due("none left", 0, x::undo);
        checks.due("before all", 12, () -> x.item(1, 4));
    }

    private static void undoLeavesTheRest() {
        CloneOutliner x = Checks.outlineOf("a;.b");
        x.setNumber(1, false, 1);
        Checks.filter(x, "~b");
        x.hoist(1);
        Checks.type(x, "?");
        checks.due("wrong", Checks.ARGUMENT, () -> x.add(0, 0));
        checks.due("refused", Checks.REFUSED, () -> x.clone(1, 2, 0));
        Checks.type(x, "qq");
        checks.due("undo", 1, x::undo);
        checks.same("all the rest stays", "3 2 2 1 1 1 1 1 2 1 2", Checks.outlineNumbers(x));
        checks.due("error", 0, x::errorPosition);
        checks.same("refusal", "20 3", Checks.chain(x));
    }

    private static void snapshot() {
        checks.about("promise 31");
        CloneOutliner x = new CloneOutliner();
        checks.due("the root", 1, x::snapshot);
        Checks.load(x, 0, "a@1=2x;.b;c;.*1");
        x.setFlag(2, true, true);
        checks.due("is no change", 2, () -> x.outline(9));
        String before = Checks.contents(x);
        checks.due("four", 4, x::snapshot);
        checks.due("nor ends changes", 2, () -> x.outline(9));
        x.detach(0, 0);
        x.setNumber(0, true, 5);
        Checks.add(x, 2, 0, "d");
        checks.due("the later one counts", 4, x::restore);
        checks.same("all of it", before, Checks.contents(x));
        x.detach(0, 0);
        checks.due("replaced", 3, x::snapshot);
        x.undo();
        checks.due("replaced", 3, x::restore);
    }

    private static void restore() {
        checks.about("promise 32");
        CloneOutliner x = new CloneOutliner();
        checks.due("none", Checks.STATE, x::restore);
        Checks.load(x, 0, "a;.b");
        x.snapshot();
        String before = Checks.contents(x);
        Checks.add(x, 1, 0, "c");
        x.hoist(2);
        Checks.filter(x, "leaf");
        Checks.type(x, "abc");
        checks.due("three", 3, x::restore);
        checks.same("as it was", before, Checks.contents(x));
        checks.same("the rest stays", "3 2 2 0 2 1 1 1 3 0 2", Checks.outlineNumbers(x));
        checks.due("no undo", Checks.STATE, x::undo);
        checks.due("numbers as they were", 3, () -> x.add(0, 0));
        checks.due("one change", 1, () -> x.outline(9));
        checks.due("it stays available", 3, x::restore);
        checks.same("as it was", before, Checks.contents(x));
        x.clear();
        checks.due("also after clear", 3, x::restore);
        checks.same("as it was", before, Checks.contents(x));
        x.setNumber(1, false, 9);
        checks.due("a change does not change it", 3, x::restore);
        checks.same("as it was", before, Checks.contents(x));
    }
}
