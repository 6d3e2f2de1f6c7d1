/** The sentences on refusals and their chains: each reason for each call, which one counts, and what is kept. */
public final class RefusalBoundsTest {
    private static final Checks checks = new Checks();

    public static void main(String[] args) {
        reasonsOfAdd();
        reasonsOfClone();
        reasonsOfMoveBlock();
        reasonsOfIndent();
        reasonsOfOutdent();
        reasonsOfLoad();
        firstOfAdd();
        firstOfClone();
        firstOfMoveBlock();
        firstOfIndent();
        firstOfOutdent();
        firstOfLoad();
        sixtyIsNoReasonForOthers();
        movedItemsAreTakenAwayFirst();
        nothingIsRemovedOnTheWay();
        numbersInTheChain();
        lengthsOfChains();
        latestIsKept();
        keptByOtherCalls();
        refusedChangesNothing();
        checks.end("RefusalBoundsTest");
    }

    /** 60 items: 12 below the root, then 12 below each of the first four. */
    private static CloneOutliner withSixty() {
        CloneOutliner x = new CloneOutliner();
        for (int parent = 0; parent <= 4; parent++) {
            Checks.fill(x, parent, 12);
        }
        return x;
    }

    /** 300 places, where the last child of the root is below 2, too, which has two places. */
    private static CloneOutliner withPlacesAndClone() {
        CloneOutliner x = Checks.withPlaces(298);
        x.clone(x.related(0, 5, false), 2, 0);
        checks.due("300", 300, () -> x.outline(2));
        return x;
    }

    private static void reasonsOfAdd() {
        checks.about("Refusals: 1 and 4 for add");
        CloneOutliner x = withSixty();
        checks.refused("60 were added", "10 1", x, () -> Checks.add(x, 5, 0, "n"));
        CloneOutliner y = new CloneOutliner();
        Checks.fill(y, 0, 12);
        checks.refused("12 children", "10 1", y, () -> Checks.add(y, 0, 0, "n"));
        CloneOutliner z = Checks.withPlaces(300);
        checks.refused("300 places", "10 4", z, () -> Checks.add(z, 1, 0, "n"));
    }

    private static void reasonsOfClone() {
        checks.about("Refusals: 1 to 4 for clone");
        CloneOutliner x = Checks.outlineOf("a;.b;c");
        checks.refused("a child of it", "20 2", x, () -> x.clone(2, 1, 0));
        checks.refused("the item itself", "20 3", x, () -> x.clone(2, 2, 0));
        checks.refused("below it", "20 3", x, () -> x.clone(1, 2, 0));
        Checks.fill(x, 1, 12);
        checks.refused("12 children", "20 1", x, () -> x.clone(3, 1, 0));
        CloneOutliner y = Checks.withPlaces(300);
        checks.refused("300 places", "20 4", y, () -> y.clone(3, 1, 0));
    }

    private static void reasonsOfMoveBlock() {
        checks.about("Refusals: 1 to 4 for moveBlock");
        CloneOutliner x = Checks.outlineOf("a;.b;c;.*1");
        checks.refused("a child of it", "30 100 2", x, () -> x.moveBlock(3, 0, 0, 1, 0));
        checks.refused("the item itself", "30 100 3", x, () -> x.moveBlock(0, 0, 0, 1, 0));
        checks.refused("below it", "30 100 3", x, () -> x.moveBlock(0, 0, 0, 2, 0));
        Checks.fill(x, 1, 12);
        checks.refused("12 children", "30 100 1", x, () -> x.moveBlock(0, 1, 1, 1, 0));
        CloneOutliner y = Checks.withPlaces(300);
        checks.refused("300 places", "30 100 4", y, () -> y.moveBlock(0, 7, 7, 2, 0));
    }

    private static void reasonsOfIndent() {
        checks.about("Refusals: 1 to 4 for indent");
        CloneOutliner x = Checks.outlineOf("a;.b;*1;c");
        checks.refused("a child of it", "40 2", x, () -> x.indent(2));
        x.moveBlock(0, 1, 1, 0, 0);
        checks.same("lines", "b a a/b c", Checks.paths(x));
        checks.refused("below it", "40 3", x, () -> x.indent(1));
        Checks.fill(x, 1, 12);
        checks.refused("12 children", "40 1", x, () -> x.indent(14));
        CloneOutliner y = Checks.withPlaces(300);
        y.moveBlock(0, 7, 7, 0, 2);
        checks.refused("300 places", "40 4", y, () -> y.indent(y.lineOf(y.related(0, 2, false))));
    }

    private static void reasonsOfOutdent() {
        checks.about("Refusals: 1 and 2 for outdent");
        CloneOutliner x = Checks.outlineOf("a;.b;*1;c");
        checks.refused("a child of it", "50 2", x, () -> x.outdent(1));
        x.detach(0, 1);
        Checks.fill(x, 0, 12);
        checks.refused("12 children", "50 1", x, () -> x.outdent(1));
    }

    private static void reasonsOfLoad() {
        checks.about("Refusals: 1 to 4 for load");
        CloneOutliner x = withSixty();
        checks.refused("60 were added", "60 100 1", x, () -> Checks.load(x, 5, "n"));
        CloneOutliner y = new CloneOutliner();
        checks.refused("a child of it", "60 102 2", y, () -> Checks.load(y, 0, "a;.b;.*1"));
        checks.refused("also of the item for which it is loaded", "60 101 2", y, () -> Checks.load(y, 0, "a;*0"));
        checks.refused("the item itself", "60 101 3", y, () -> Checks.load(y, 0, "a;.*0"));
        checks.refused("below it", "60 102 3", y, () -> Checks.load(y, 0, "a;.b;..*0"));
        Checks.fill(y, 0, 12);
        checks.refused("12 children", "60 100 1", y, () -> Checks.load(y, 0, "n"));
        CloneOutliner z = Checks.withPlaces(299);
        checks.refused("300 places, a new one", "60 100 4", z, () -> Checks.load(z, 2, "n"));
        checks.refused("300 places, a later one", "60 101 4", z, () -> Checks.load(z, 1, "n;.n"));
        CloneOutliner w = Checks.withPlaces(297);
        checks.refused("300 places, a clone", "60 103 4", w, () -> Checks.load(w, 0, "a;.b;c;.*0"));
    }

    private static void firstOfAdd() {
        checks.about("Refusals: The first one that applies counts, for add");
        CloneOutliner x = Checks.withPlaces(300);
        checks.refused("12 children and 300 places", "10 1", x, () -> Checks.add(x, 8, 0, "n"));
        CloneOutliner y = Checks.withPlaces(300);
        while (y.outline(1) < 60) {
            y.detach(0, 7);
            Checks.add(y, 0, 7, "n");
        }
        checks.refused("60 were added and 300 places", "10 1", y, () -> Checks.add(y, 1, 0, "n"));
    }

    private static void firstOfClone() {
        checks.about("Refusals: The first one that applies counts, for clone");
        CloneOutliner x = Checks.withPlaces(300);
        int child = x.related(8, 0, false);
        int leaf = x.related(0, 7, false);
        checks.refused("1 and 2", "20 1", x, () -> x.clone(child, 8, 0));
        checks.refused("1 and 3, the item itself", "20 1", x, () -> x.clone(8, 8, 0));
        checks.refused("1 and 3, below it", "20 1", x, () -> x.clone(3, 8, 0));
        checks.refused("1 and 4", "20 1", x, () -> x.clone(leaf, 8, 0));
        checks.refused("2 and 4", "20 2", x, () -> x.clone(leaf, 0, 0));
        checks.refused("3 and 4, the item itself", "20 3", x, () -> x.clone(7, 7, 0));
        checks.refused("3 and 4, below it", "20 3", x, () -> x.clone(3, 7, 0));
    }

    private static void firstOfMoveBlock() {
        checks.about("Refusals: The first one that applies counts, for moveBlock");
        CloneOutliner x = Checks.outlineOf("a;b;.c;*2");
        Checks.fill(x, 2, 12);
        checks.refused("1 and 2", "30 100 1", x, () -> x.moveBlock(0, 2, 2, 2, 0));
        checks.refused("1 and 3, the item itself", "30 100 1", x, () -> x.moveBlock(0, 1, 1, 2, 0));
        CloneOutliner y = Checks.withPlaces(300);
        checks.refused("1 and 3, below it", "30 100 1", y, () -> y.moveBlock(0, 2, 2, 8, 0));
        checks.refused("1 and 4", "30 100 1", y, () -> y.moveBlock(0, 7, 7, 8, 0));
        checks.refused("3 and 4, below it", "30 100 3", y, () -> y.moveBlock(0, 2, 2, 7, 0));
        CloneOutliner z = withPlacesAndClone();
        checks.refused("2 and 4", "30 100 2", z, () -> z.moveBlock(0, 5, 5, 2, 0));
        CloneOutliner w = Checks.outlineOf("a;b;c;d;.*0");
        Checks.fill(w, 4, 11);
        checks.refused("the first child counts, though the third one had a lower reason", "30 100 2", w,
            () -> w.moveBlock(0, 0, 2, 4, 0));
    }

    private static void firstOfIndent() {
        checks.about("Refusals: The first one that applies counts, for indent");
        CloneOutliner x = Checks.outlineOf("a;.b;*1");
        Checks.fill(x, 1, 12);
        checks.refused("1 and 2", "40 1", x, () -> x.indent(13));
        CloneOutliner y = Checks.outlineOf("a;.b;*1");
        Checks.fill(y, 2, 12);
        y.moveBlock(0, 1, 1, 0, 0);
        checks.refused("1 and 3", "40 1", y, () -> y.indent(13));
        CloneOutliner z = withPlacesAndClone();
        z.moveBlock(0, 5, 5, 0, 2);
        checks.refused("2 and 4", "40 2", z, () -> z.indent(z.lineOf(3) - 1));
        CloneOutliner w = Checks.withPlaces(300);
        w.moveBlock(0, 2, 2, 0, 4);
        checks.same("7 is ahead of 3", "7 3", w.related(0, 3, false) + " " + w.related(0, 4, false));
        checks.refused("3 and 4", "40 3", w, () -> w.indent(w.lineOf(3)));
        CloneOutliner v = Checks.withPlaces(297);
        v.detach(0, 4);
        v.clone(8, 0, 4);
        Checks.fill(v, 0, 9);
        checks.due("300", 300, () -> v.outline(2));
        checks.refused("1 and 4", "40 1", v, () -> v.indent(v.lineOf(v.related(0, 5, false))));
    }

    private static void firstOfOutdent() {
        checks.about("Refusals: The first one that applies counts, for outdent");
        CloneOutliner x = Checks.outlineOf("a;.b;*1");
        Checks.fill(x, 0, 12);
        checks.refused("1 and 2", "50 1", x, () -> x.outdent(1));
    }

    private static void firstOfLoad() {
        checks.about("Refusals: The first one that applies counts, for load");
        CloneOutliner x = Checks.outlineOf("z");
        checks.refused("1 and 2", "60 112 1", x, () -> Checks.load(x, 1, "a;b;c;d;e;f;g;h;i;j;k;l;*0"));
        checks.refused("1 and 3", "60 113 1", x, () -> Checks.load(x, 1, "a;.b;.c;.d;.e;.f;.g;.h;.i;.j;.k;.l;.m;.*0"));
        CloneOutliner y = Checks.withPlaces(300);
        checks.refused("1 and 4", "60 100 1", y, () -> Checks.load(y, 8, "a"));
        CloneOutliner z = Checks.withPlaces(299);
        checks.refused("2 and 4", "60 101 2", z, () -> Checks.load(z, 1, "a;*0"));
        checks.refused("3 and 4", "60 101 3", z, () -> Checks.load(z, 1, "a;.*0"));
        CloneOutliner w = Checks.outlineOf("z");
        checks.refused("the first entry that is refused counts", "60 101 3", w, () -> Checks.load(w, 0, "a;.*0;*0"));
    }

    private static void sixtyIsNoReasonForOthers() {
        checks.about("Refusals: 1, it would be a new item, and 60 were added already");
        CloneOutliner x = withSixty();
        checks.due("clone", 2, () -> x.clone(60, 5, 0));
        checks.due("moveBlock", 12, () -> x.moveBlock(4, 0, 11, 6, 0));
        checks.due("indent", 4, () -> x.indent(x.lineOf(5)));
        checks.due("outdent", 0, () -> x.outdent(x.lineOf(5)));
    }

    private static void movedItemsAreTakenAwayFirst() {
        checks.about("Details: Reasons for a move are found with the moved items taken away first");
        CloneOutliner x = Checks.outlineOf("a;b");
        Checks.fill(x, 0, 12);
        checks.due("12 children are no reason", 12, () -> x.moveBlock(0, 0, 11, 0, 0));
        checks.due("nor that it is a child", 1, () -> x.moveBlock(0, 0, 0, 0, 11));
        checks.due("it is the last one", 1, () -> x.related(0, 11, false));
        CloneOutliner y = Checks.withPlaces(300);
        checks.due("300 places are none", 1, () -> y.moveBlock(0, 2, 2, 0, 0));
        checks.due("nor for all together", 8, () -> y.moveBlock(0, 0, 7, 0, 0));
        checks.due("300", 300, () -> y.outline(2));
        CloneOutliner z = Checks.outlineOf("a;.b;c;.*1");
        checks.refused("another clone is not taken away", "30 100 2", z, () -> z.moveBlock(1, 0, 0, 3, 0));
    }

    private static void nothingIsRemovedOnTheWay() {
        checks.about("Details: nothing is removed on the way");
        CloneOutliner x = Checks.outlineOf("a=1;.b=2;..c=3;.d@4;e");
        checks.due("with all that is below", 2, () -> x.moveBlock(1, 0, 1, 5, 0));
        checks.same("lines", "a e e/b e/b/c e/d", Checks.paths(x));
        checks.same("the same items", "2 3 4", x.related(5, 0, false) + " " + x.related(2, 0, false) + " "
            + x.related(5, 1, false));
        checks.same("with their figures", "2 3 4", x.item(2, 4) + " " + x.item(3, 4) + " " + x.item(4, 5));
        x.hoist(3);
        checks.due("back", 1, () -> x.moveBlock(5, 0, 0, 1, 0));
        checks.due("hoists do not end either", 3, () -> x.outline(4));
        x.unhoist();
        checks.same("lines", "a a/b a/b/c e e/d", Checks.paths(x));
        checks.due("by outdent", 1, () -> x.outdent(2));
        checks.due("by indent", 2, () -> x.indent(2));
        checks.due("all are there", 6, () -> x.outline(0));
    }

    private static void numbersInTheChain() {
        checks.about("Refusals: 100 plus the number of the child in the block or of the entry, each counted from 0");
        CloneOutliner x = Checks.outlineOf("a;b;c;d;e;.*1;.*3");
        checks.refused("not the index among the children", "30 100 2", x, () -> x.moveBlock(0, 1, 3, 5, 0));
        checks.refused("the second of the block", "30 101 2", x, () -> x.moveBlock(0, 2, 3, 5, 1));
        checks.refused("the third of the block", "30 102 3", x, () -> x.moveBlock(0, 2, 4, 2, 0));
        checks.refused("the second entry", "60 101 2", x, () -> Checks.load(x, 0, "f;*0"));
        checks.refused("an entry below others", "60 103 3", x, () -> Checks.load(x, 0, "f;.g;h;.*2"));
        checks.refused("the 25th entry", "60 124 1", x,
            () -> Checks.load(x, 1, "a;".repeat(12) + ".b;".repeat(12) + ".b"));
        checks.due("24 entries", 24, () -> Checks.load(x, 1, "a;".repeat(12) + ".b;".repeat(11) + ".b"));
    }

    private static void lengthsOfChains() {
        checks.about("Details: Chains of other calls than moveBlock and load have two numbers");
        CloneOutliner x = Checks.outlineOf("a;.b;*1;c");
        hasLength(2, "add", x, () -> {
            Checks.fill(x, 3, 12);
            return Checks.add(x, 3, 0, "n");
        });
        hasLength(3, "moveBlock", x, () -> x.moveBlock(0, 0, 0, 1, 0));
        hasLength(2, "clone", x, () -> x.clone(1, 1, 0));
        hasLength(3, "load", x, () -> Checks.load(x, 3, "n"));
        hasLength(2, "indent", x, () -> x.indent(2));
        hasLength(3, "moveBlock", x, () -> x.moveBlock(0, 0, 0, 2, 0));
        hasLength(2, "outdent", x, () -> x.outdent(1));
    }

    private static void hasLength(int length, String what, CloneOutliner x, Checks.Call call) {
        checks.due(what, Checks.REFUSED, call);
        checks.due("the reason of " + what, true, () -> x.refusal(length - 1) >= 1 && x.refusal(length - 1) <= 4);
        for (int index : Checks.noIndexes(length)) {
            checks.due("no number of " + what + " at " + index, Checks.INDEX, () -> x.refusal(index));
        }
    }

    private static void latestIsKept() {
        checks.about("Refusals: The latest refusal is kept with its chain");
        CloneOutliner x = Checks.outlineOf("a;.b;*1");
        for (int index : Checks.noIndexes(0)) {
            checks.due("nothing was refused", Checks.STATE, () -> x.refusal(index));
        }
        checks.refused("first", "30 100 3", x, () -> x.moveBlock(0, 0, 0, 1, 0));
        checks.refused("second", "20 2", x, () -> x.clone(2, 1, 0));
        checks.refused("third", "40 2", x, () -> x.indent(2));
        checks.refused("fourth", "50 2", x, () -> x.outdent(1));
        checks.refused("fifth", "60 101 3", x, () -> Checks.load(x, 0, "c;.*0"));
        checks.refused("as the fifth", "60 101 3", x, () -> Checks.load(x, 0, "c;.*0"));
        Checks.fill(x, 0, 12);
        checks.refused("sixth", "10 1", x, () -> Checks.add(x, 0, 0, "n"));
        CloneOutliner y = Checks.outlineOf("a");
        checks.due("another object has none", Checks.STATE, () -> y.refusal(0));
    }

    private static void keptByOtherCalls() {
        CloneOutliner x = Checks.outlineOf("a;.b;*1");
        checks.refused("first", "60 101 3", x, () -> Checks.load(x, 0, "c;.*0"));
        x.clone(Checks.add(x, 0, 0, "c"), 1, 0);
        x.moveBlock(0, 0, 1, 0, 1);
        Checks.load(x, 0, "d");
        x.detach(0, 0);
        Checks.type(x, "?");
        checks.due("malformed", Checks.ARGUMENT, () -> x.rename(1));
        checks.due("no such item", Checks.NO_SUCH, () -> x.clone(9, 9, 9));
        checks.due("no such index", Checks.INDEX, () -> x.clone(1, 0, 9));
        checks.due("no child before it", Checks.STATE, () -> x.indent(0));
        checks.same("kept", "60 101 3", Checks.chain(x));
        x.snapshot();
        x.undo();
        x.restore();
        checks.same("neither undone nor saved", "60 101 3", Checks.chain(x));
        x.clear();
        checks.same("nor cleared", "60 101 3", Checks.chain(x));
    }

    private static CloneOutliner busyAndFull(String buffer) {
        CloneOutliner x = Checks.busy("");
        Checks.fill(x, 5, 12);
        x.clone(3, 1, 1);
        x.hoist(0);
        Checks.type(x, buffer);
        return x;
    }

    private static void refusedChangesNothing() {
        checks.about("Exceptions: A call that throws an exception leaves the state unchanged, when it is refused");
        CloneOutliner x = busyAndFull("");
        checks.same("lines", "a a/b a/b/c a/c d d/b d/b/c e" + " e/n".repeat(12) + " f", Checks.paths(x));
        checks.same("texts", "0 at 0, 20 3", Checks.textState(x));
        refuses("add", "0 at 0, 10 1", y -> y.add(5, 0));
        refuses("load", "0 at 0, 60 100 1", y -> y.load(5));
        refuses("clone", "3 at 0, 20 1", y -> y.clone(1, 5, 0));
        refuses("moveBlock", "3 at 0, 30 101 3", y -> y.moveBlock(0, 0, 1, 4, 0));
        refuses("indent", "3 at 0, 40 1", y -> y.indent(20));
        refuses("outdent", "3 at 0, 50 2", y -> y.outdent(2));
    }

    private static void refuses(String what, String texts, Checks.Deed deed) {
        checks.leavesState(what, Checks.REFUSED, texts, () -> busyAndFull("abc"), deed);
    }
}
