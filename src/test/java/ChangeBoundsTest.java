/** The sentences on changes, undo, clear and the snapshot, at their bounds. */
public final class ChangeBoundsTest {
    private static final Checks checks = new Checks();

    public static void main(String[] args) {
        everyChange();
        changesOfNothing();
        noChanges();
        failedCallsAreNoChanges();
        atMostEight();
        onlyTheLatestSevenBefore();
        undoneInTurn();
        changesAfterUndo();
        sinceClear();
        noneAfterRestore();
        undoTakesBackTheNumber();
        undoTakesBackSixty();
        undoLeavesTextsAndHoists();
        undoOfRemovedItems();
        clearMakesNew();
        clearKeepsFour();
        clearOfNothing();
        snapshotOfEverything();
        snapshotReplaces();
        snapshotStays();
        snapshotIsApart();
        snapshotLeavesTexts();
        snapshotKeepsNumbers();
        objectsAreApart();
        longRun();
        checks.end("ChangeBoundsTest");
    }

    private static CloneOutliner start() {
        return Checks.outlineOf("a@1=2x;.b;..c;d;.*1;e;f");
    }

    private static void changes(String what, int more, Checks.Deed deed) {
        CloneOutliner x = start();
        Checks.type(x, "q");
        deed.on(x);
        checks.due("changes after " + what, 1 + more, () -> x.outline(9));
        String after = Checks.contents(x);
        for (int left = more; left > 0; left--) {
            int due = left;
            checks.due("undo of " + what, due, x::undo);
        }
        checks.same("after the undo of " + what, Checks.contents(start()), Checks.contents(x));
        checks.same("something was changed by " + what, false, after.equals(Checks.contents(x)));
    }

    private static void everyChange() {
        checks.about("Changes: the successful calls of add, clone, detach, moveBlock, indent, .. and load");
        changes("add", 1, x -> x.add(3, 0));
        changes("clone", 1, x -> x.clone(5, 6, 0));
        changes("detach", 1, x -> x.detach(0, 0));
        changes("detach of one place", 1, x -> x.detach(4, 0));
        changes("moveBlock", 1, x -> x.moveBlock(0, 0, 1, 6, 0));
        changes("indent", 1, x -> x.indent(x.lineOf(6)));
        changes("outdent", 1, x -> x.outdent(2));
        changes("rename", 1, x -> x.rename(6));
        changes("setNumber of a value", 1, x -> x.setNumber(6, false, 1));
        changes("setNumber of a day", 1, x -> x.setNumber(0, true, 0));
        changes("setFlag of a fold", 1, x -> x.setFlag(6, true, true));
        changes("setFlag of done", 1, x -> x.setFlag(0, false, true));
        changes("load", 1, x -> x.load(6));
        changes("two of them", 2, x -> x.setNumber(x.add(0, 0), false, 4));
    }

    private static void leavesAllAsItWas(String what, Checks.Deed deed) {
        CloneOutliner x = start();
        Checks.type(x, "e");
        String before = Checks.contents(x);
        deed.on(x);
        checks.same("contents after " + what, before, Checks.contents(x));
        checks.due("changes after " + what, 2, () -> x.outline(9));
        checks.due("undo of " + what, 1, x::undo);
        checks.same("contents after the undo of " + what, before, Checks.contents(x));
    }

    private static void changesOfNothing() {
        checks.about("Details: A change that leaves all as it was is one, too");
        leavesAllAsItWas("setNumber of the same value", x -> x.setNumber(1, false, 2));
        leavesAllAsItWas("setNumber of the same day", x -> x.setNumber(1, true, 1));
        leavesAllAsItWas("setNumber of no day again", x -> x.setNumber(2, true, -1));
        leavesAllAsItWas("setFlag of done again", x -> x.setFlag(1, false, true));
        leavesAllAsItWas("setFlag of not folded again", x -> x.setFlag(1, true, false));
        leavesAllAsItWas("rename to the same name", x -> x.rename(5));
        leavesAllAsItWas("moveBlock to the same indexes", x -> x.moveBlock(0, 1, 2, 0, 1));
        leavesAllAsItWas("moveBlock of all", x -> x.moveBlock(0, 0, 3, 0, 0));
    }

    private static void noChanges() {
        checks.about("Changes: no other calls are changes");
        CloneOutliner x = start();
        Checks.type(x, "leaf");
        checks.due("filter", 8, x::filter);
        checks.due("hoist", 1, () -> x.hoist(0));
        checks.due("unhoist", 0, x::unhoist);
        checks.due("snapshot", 7, x::snapshot);
        checks.due("isConsistent", true, x::isConsistent);
        checks.due("append", 1, () -> x.append('a'));
        checks.due("questions", "1 2 a false", () -> x.item(1, 2) + " " + x.related(1, 0, false) + " " + x.letter(1, 0)
            + " " + x.isBelow(1, 2));
        checks.due("one change still", 1, () -> x.outline(9));
        checks.due("that of load", 0, x::undo);
    }

    private static void failedCallsAreNoChanges() {
        checks.about("Changes: the successful calls");
        CloneOutliner x = Checks.busy("");
        checks.due("changes", 3, () -> x.outline(9));
        Checks.type(x, "?");
        checks.due("add", Checks.ARGUMENT, () -> x.add(0, 0));
        checks.due("load", Checks.ARGUMENT, () -> x.load(0));
        checks.due("rename", Checks.ARGUMENT, () -> x.rename(1));
        checks.due("clone", Checks.REFUSED, () -> x.clone(1, 1, 0));
        checks.due("moveBlock", Checks.REFUSED, () -> x.moveBlock(0, 0, 0, 1, 0));
        checks.due("load", Checks.REFUSED, () -> Checks.load(x, 0, "a;.*0"));
        checks.due("detach", Checks.INDEX, () -> x.detach(0, 4));
        checks.due("indent", Checks.STATE, () -> x.indent(0));
        checks.due("outdent", Checks.STATE, () -> x.outdent(0));
        checks.due("setNumber", Checks.ARGUMENT, () -> x.setNumber(1, true, -2));
        checks.due("setFlag", Checks.NO_SUCH, () -> x.setFlag(7, true, true));
        checks.due("changes still", 3, () -> x.outline(9));
        x.hoist(1);
        x.unhoist();
        x.filter();
        x.snapshot();
        x.append('a');
        x.isConsistent();
        checks.due("nor are hoists, filters, snapshots and texts", 3, () -> x.outline(9));
        checks.same("undone are the others", "2 1 0", x.undo() + " " + x.undo() + " " + x.undo());
    }

    private static void atMostEight() {
        checks.about("Changes: so that there are at most 8");
        CloneOutliner x = new CloneOutliner();
        for (int value = 1; value <= 30; value++) {
            x.setNumber(0, false, value);
            checks.due("changes", Math.min(8, value), () -> x.outline(9));
        }
        checks.due("none is undone by that", 30, () -> x.item(0, 4));
        for (int left = 7; left >= 0; left--) {
            int due = left;
            checks.due("left", due, x::undo);
            checks.due("the value then", 22 + left, () -> x.item(0, 4));
        }
        checks.due("no ninth", Checks.STATE, x::undo);
        checks.due("the value stays", 22, () -> x.item(0, 4));
    }

    private static void onlyTheLatestSevenBefore() {
        checks.about("Changes: of those that could be undone before it, only the latest 7 still can");
        CloneOutliner x = new CloneOutliner();
        for (int value = 1; value <= 8; value++) {
            x.setNumber(0, false, value);
        }
        checks.due("8 are no more than 8", 7, x::undo);
        x.setNumber(0, false, 80);
        checks.due("8", 8, () -> x.outline(9));
        for (int count = 0; count < 8; count++) {
            x.undo();
        }
        checks.due("back to the first", 0, () -> x.item(0, 4));
        for (int value = 1; value <= 9; value++) {
            x.setNumber(0, false, value);
        }
        for (int count = 0; count < 8; count++) {
            x.undo();
        }
        checks.due("9 are one too many", 1, () -> x.item(0, 4));
        checks.due("it stays", Checks.STATE, x::undo);
    }

    private static void undoneInTurn() {
        checks.about("promise 30: Undoes the last change that can be undone");
        CloneOutliner x = new CloneOutliner();
        String[] states = new String[9];
        for (int number = 0; number < 8; number++) {
            states[number] = Checks.contents(x);
            switch (number) {
                case 0: Checks.load(x, 0, "a@5=6x;.b;..c;d;.*1"); break;
                case 1: x.clone(3, 0, 0); break;
                case 2: x.detach(0, 2); break;
                case 3: x.moveBlock(0, 1, 1, 0, 0); break;
                case 4: x.setFlag(1, true, true); break;
                case 5: x.setNumber(2, true, 9999); break;
                case 6: Checks.add(x, 0, 1, "e"); break;
                default: x.indent(x.lineOf(5)); break;
            }
        }
        for (int number = 7; number >= 0; number--) {
            int left = number;
            checks.due("left", left, x::undo);
            checks.same("the state " + number, states[number], Checks.contents(x));
        }
        checks.due("no more", Checks.STATE, x::undo);
    }

    private static void changesAfterUndo() {
        CloneOutliner x = new CloneOutliner();
        for (int value = 1; value <= 8; value++) {
            x.setNumber(0, false, value);
        }
        x.undo();
        x.undo();
        x.undo();
        x.setNumber(0, false, 50);
        x.setNumber(0, false, 51);
        checks.due("five and two", 7, () -> x.outline(9));
        int[] due = {50, 5, 4, 3, 2, 1, 0};
        for (int value : due) {
            x.undo();
            checks.due("the undone ones do not come back", value, () -> x.item(0, 4));
        }
        checks.due("no more", Checks.STATE, x::undo);
    }

    private static void sinceClear() {
        checks.about("Changes: since the last call of clear");
        CloneOutliner x = start();
        x.setNumber(1, false, 5);
        x.clear();
        checks.due("none", Checks.STATE, x::undo);
        checks.due("none", 0, () -> x.outline(9));
        Checks.add(x, 0, 0, "q");
        checks.due("one", 0, x::undo);
        checks.same("the root alone", Checks.contents(new CloneOutliner()), Checks.contents(x));
        checks.due("none before it", Checks.STATE, x::undo);
    }

    private static void noneAfterRestore() {
        checks.about("promise 32: After that no changes can be undone");
        CloneOutliner x = start();
        x.snapshot();
        x.setNumber(1, false, 5);
        x.restore();
        checks.due("none", 0, () -> x.outline(9));
        checks.due("none", Checks.STATE, x::undo);
        x.setNumber(1, false, 6);
        checks.due("one", 0, x::undo);
        checks.due("as in the snapshot", 2, () -> x.item(1, 4));
        checks.due("none before it", Checks.STATE, x::undo);
        x.restore();
        checks.due("also when nothing was changed", Checks.STATE, x::undo);
    }

    private static void undoTakesBackTheNumber() {
        checks.about("Details: An undo also takes back how many items were added, so that numbers can come again");
        CloneOutliner x = start();
        checks.due("the seventh", 7, () -> Checks.add(x, 0, 0, "g"));
        x.undo();
        checks.due("six", 6, () -> x.outline(1));
        checks.due("again", 7, () -> Checks.add(x, 0, 0, "h"));
        checks.same("another name", "h", Checks.name(x, 7));
        Checks.load(x, 0, "i;j");
        x.undo();
        checks.due("the eighth, by load", 1, () -> Checks.load(x, 0, "k"));
        checks.same("its name", "k", Checks.name(x, 8));
        x.detach(0, 0);
        x.undo();
        checks.due("a removed one comes back", 0, () -> x.lineOf(7));
        checks.due("and what was added stays", 8, () -> x.outline(1));
    }

    private static void undoTakesBackSixty() {
        CloneOutliner x = new CloneOutliner();
        for (int item = 0; item < 60; item++) {
            Checks.add(x, item, 0, "n");
        }
        checks.refused("60", "10 1", x, () -> Checks.add(x, 0, 0, "n"));
        x.undo();
        checks.due("59", 60, () -> Checks.add(x, 0, 0, "n"));
        checks.refused("60", "10 1", x, () -> Checks.add(x, 0, 0, "n"));
    }

    private static void undoLeavesTextsAndHoists() {
        checks.about("Exceptions: hoists, filter, buffer, error position and refusal are neither undone nor saved");
        CloneOutliner x = Checks.busy("abc");
        String lines = Checks.paths(x);
        x.hoist(5);
        x.undo();
        checks.same("texts", "3 at 0, 20 3", Checks.textState(x));
        checks.same("hoists and conditions", "5 2 1", x.outline(4) + " " + x.outline(5) + " " + x.outline(6));
        checks.due("the former hoist", 4, x::unhoist);
        x.restore();
        checks.same("texts", "3 at 0, 20 3", Checks.textState(x));
        checks.same("hoists and conditions", "4 1 1", x.outline(4) + " " + x.outline(5) + " " + x.outline(6));
        checks.same("lines", lines, Checks.paths(x));
        checks.due("what is in the buffer", 1, () -> x.load(5));
    }

    private static void undoOfRemovedItems() {
        CloneOutliner x = start();
        x.setFlag(2, true, true);
        x.setFlag(3, false, true);
        x.setNumber(3, false, 33);
        x.setNumber(3, true, 44);
        String before = Checks.contents(x);
        x.detach(4, 0);
        x.detach(0, 0);
        checks.due("three are no more", 4, () -> x.outline(0));
        Checks.add(x, 0, 0, "z");
        x.undo();
        x.undo();
        x.undo();
        checks.same("with all that they had", before, Checks.contents(x));
    }

    private static void clearMakesNew() {
        checks.about("promise 2: Makes everything as in a new object, except ..");
        CloneOutliner x = Checks.busy("");
        x.setNumber(0, false, 9);
        x.setNumber(0, true, 9);
        x.setFlag(0, true, true);
        x.setFlag(0, false, true);
        checks.due("7 items", 7, x::clear);
        checks.same("contents", Checks.contents(new CloneOutliner()), Checks.contents(x));
        checks.same("numbers", "1 0 0 0 0 0 0 0 0 0 0", Checks.outlineNumbers(x));
        checks.due("no hoists", Checks.STATE, x::unhoist);
        checks.due("no changes", Checks.STATE, x::undo);
        checks.due("numbers from 1", 1, () -> Checks.add(x, 0, 0, "a"));
        checks.same("no filter", "1", "" + x.outline(3));
        checks.same("with nothing of the former one", "1 0 1 1 0 -1 0 0 1 0 -1 -1 1 0 0", Checks.itemNumbers(x, 1));
    }

    private static void clearKeepsFour() {
        CloneOutliner x = Checks.busy("abc");
        x.clear();
        checks.same("buffer, error position and refusal", "3 at 0, 20 3", Checks.textState(x));
        checks.due("the buffer", 1, () -> x.add(0, 0));
        checks.same("its letters", "abc", Checks.name(x, 1));
        checks.due("the snapshot", 7, x::restore);
        checks.same("is as it was", Checks.contents(start()), Checks.contents(x));
        CloneOutliner y = Checks.outlineOf("a");
        y.clear();
        checks.due("no snapshot if there was none", Checks.STATE, y::restore);
        checks.due("no error if there was none", Checks.STATE, y::errorPosition);
        checks.due("no refusal if there was none", Checks.STATE, () -> y.refusal(0));
    }

    private static void clearOfNothing() {
        checks.about("promise 2: the number of items that there were, the root included");
        CloneOutliner x = new CloneOutliner();
        checks.same("the root alone", "1 1", x.clear() + " " + x.clear());
        for (int item = 0; item < 60; item++) {
            Checks.add(x, item, 0, "n");
        }
        x.detach(58, 0);
        checks.due("59, without the removed ones", 59, x::clear);
        checks.due("then 1", 1, x::clear);
        Checks.load(x, 0, "a;b;.*0");
        checks.due("each item once", 3, x::clear);
    }

    private static void snapshotOfEverything() {
        checks.about("promise 31: everything that changes can change");
        CloneOutliner x = start();
        x.setNumber(0, false, 7);
        x.setNumber(0, true, 8);
        x.setFlag(2, true, true);
        x.setFlag(0, false, true);
        String before = Checks.contents(x);
        checks.due("7 items", 7, x::snapshot);
        x.clear();
        Checks.load(x, 0, "z@9=9x;.y;..x");
        x.setFlag(1, true, true);
        checks.due("7 items", 7, x::restore);
        checks.same("all of it", before, Checks.contents(x));
        checks.due("also how many were added", 7, () -> Checks.add(x, 0, 0, "g"));
    }

    private static void snapshotReplaces() {
        checks.about("promise 31: It replaces an earlier one");
        CloneOutliner x = new CloneOutliner();
        checks.due("the root alone", 1, x::snapshot);
        Checks.load(x, 0, "a;b");
        checks.due("three", 3, x::snapshot);
        x.clear();
        checks.due("the later one", 3, x::restore);
        x.clear();
        checks.due("one of a cleared outline", 1, x::snapshot);
        Checks.load(x, 0, "a;b");
        checks.due("the latest one", 1, x::restore);
    }

    private static void snapshotStays() {
        checks.about("promise 32: the snapshot, which stays available");
        CloneOutliner x = start();
        x.snapshot();
        for (int count = 0; count < 3; count++) {
            x.detach(0, count);
            Checks.load(x, 0, "g;.h");
            checks.due("again", 7, x::restore);
            checks.same("as it was", Checks.contents(start()), Checks.contents(x));
        }
    }

    private static void snapshotIsApart() {
        CloneOutliner x = start();
        x.snapshot();
        x.restore();
        for (int value = 10; value < 30; value++) {
            x.setNumber(1, false, value);
        }
        for (int count = 0; count < 8; count++) {
            x.undo();
        }
        x.setNumber(3, true, 9);
        checks.due("changes and undo do not change it", 7, x::restore);
        checks.same("as it was", Checks.contents(start()), Checks.contents(x));
    }

    private static void snapshotLeavesTexts() {
        checks.about("promise 31: a snapshot changes nothing else");
        CloneOutliner x = Checks.busy("abc");
        x.snapshot();
        CloneOutliner y = Checks.busy("abc");
        checks.same("texts", Checks.textState(y), Checks.textState(x));
        checks.same("contents", Checks.contents(y), Checks.contents(x));
        checks.same("numbers", Checks.outlineNumbers(y), Checks.outlineNumbers(x));
    }

    private static void snapshotKeepsNumbers() {
        CloneOutliner x = start();
        x.detach(0, 3);
        x.snapshot();
        checks.due("a seventh", 7, () -> Checks.add(x, 0, 0, "g"));
        x.restore();
        checks.due("it comes again", 7, () -> Checks.add(x, 0, 0, "h"));
        checks.due("but not the removed one", Checks.NO_SUCH, () -> x.item(6, 0));
    }

    private static void objectsAreApart() {
        checks.about("promise 1");
        CloneOutliner x = Checks.busy("abc");
        String before = Checks.contents(x);
        CloneOutliner y = new CloneOutliner();
        Checks.load(y, 0, "z;.y");
        y.setNumber(0, false, 3);
        y.clear();
        checks.same("contents", before, Checks.contents(x));
        checks.same("texts", "3 at 0, 20 3", Checks.textState(x));
        checks.due("no snapshot of another object", Checks.STATE, y::restore);
    }

    /** 512 calls of all kinds on a full outline; what is kept for them must not grow. */
    private static void longRun() {
        checks.about("An object is used for at most 512 calls");
        CloneOutliner x = new CloneOutliner();
        int calls = 0;
        for (int item = 1; calls < 120; item++) {
            x.append('n');
            x.add((item - 1) / 12, 0);
            calls += 2;
        }
        for (int round = 0; calls < 508; round++) {
            int value = round % 999;
            checks.due("setNumber", round == 0 ? 0 : (round - 1) % 999, () -> x.setNumber(60, false, value));
            checks.due("snapshot", 61, x::snapshot);
            checks.due("refused", Checks.REFUSED, () -> x.clone(1, 13, 0));
            checks.due("lines", 60, () -> x.outline(3));
            calls += 4;
        }
        checks.due("undo", 7, x::undo);
        checks.due("restore", 61, x::restore);
        checks.due("consistent", true, x::isConsistent);
        checks.due("clear", 61, x::clear);
    }
}
