/** The sentences on items and on the tree: the last value that is allowed and the first one that is not. */
public final class ItemBoundsTest {
    private static final Checks checks = new Checks();

    public static void main(String[] args) {
        rootIsItemZero();
        numberedFromOne();
        numbersAreNotUsedAgain();
        numbersOfRemovedItemsAreNone();
        sixtyByAdd();
        sixtyByLoad();
        sixtyAndClones();
        namesOfOneToTenLetters();
        lettersFromAToZ();
        valuesAtFirst();
        valuesOfLoadedItems();
        valueBounds();
        dayBounds();
        twelveByAdd();
        twelveByClone();
        twelveByMoveBlock();
        twelveByIndent();
        twelveByOutdent();
        twelveByLoad();
        differentChildren();
        rootIsNoChild();
        childOfAtLeastOne();
        belowByAnyWay();
        noItemBelowItself();
        rootHasOnePlace();
        placesAreWays();
        threeHundredByAdd();
        threeHundredByClone();
        threeHundredByMoveBlock();
        threeHundredByIndent();
        outdentAtThreeHundred();
        threeHundredByLoad();
        checks.end("ItemBoundsTest");
    }

    private static void rootIsItemZero() {
        checks.about("Items: There is a root, which is the item 0");
        CloneOutliner x = new CloneOutliner();
        checks.due("the root", 1, () -> x.outline(0));
        checks.due("its number", 1, () -> x.item(0, 2));
        for (int item : Checks.noItems(x)) {
            checks.due("no item " + item, Checks.NO_SUCH, () -> x.item(item, 2));
        }
        checks.due("none is added", 0, () -> x.outline(1));
    }

    private static void numberedFromOne() {
        checks.about("Items: numbered from 1 in the order in which they were added");
        CloneOutliner x = new CloneOutliner();
        checks.due("first", 1, () -> Checks.add(x, 0, 0, "a"));
        checks.due("second, though ahead of it", 2, () -> Checks.add(x, 0, 0, "b"));
        checks.due("third", 3, () -> Checks.add(x, 1, 0, "c"));
        Checks.load(x, 2, "d;.e;..f;g");
        checks.same("those of a text in its order", "d e f g", Checks.name(x, 4) + " " + Checks.name(x, 5) + " "
            + Checks.name(x, 6) + " " + Checks.name(x, 7));
        Checks.load(x, 2, "h;i;.*0;j");
        checks.same("a clone gets no number", "h i j", Checks.name(x, 8) + " " + Checks.name(x, 9) + " "
            + Checks.name(x, 10));
        x.clone(10, 1, 0);
        checks.due("nor by clone", 11, () -> Checks.add(x, 0, 0, "k"));
    }

    private static void numbersAreNotUsedAgain() {
        checks.about("Items: the number of a removed item is not used again");
        CloneOutliner x = Checks.outlineOf("a;b;c");
        x.detach(0, 2);
        checks.due("the last one is removed", 4, () -> Checks.add(x, 0, 0, "d"));
        x.detach(0, 0);
        x.detach(0, 0);
        x.detach(0, 0);
        checks.due("all are removed", 1, () -> x.outline(0));
        checks.due("four were added", 4, () -> x.outline(1));
        checks.due("after all", 5, () -> Checks.add(x, 0, 0, "e"));
        Checks.load(x, 0, "f");
        checks.due("by load likewise", 6, () -> x.related(0, 1, false));
    }

    private static void numbersOfRemovedItemsAreNone() {
        CloneOutliner x = Checks.outlineOf("a;b;.c;d");
        x.detach(0, 1);
        for (int item : new int[] {2, 3}) {
            checks.due("item", Checks.NO_SUCH, () -> x.item(item, 0));
            checks.due("add", Checks.NO_SUCH, () -> x.add(item, 0));
            checks.due("clone", Checks.NO_SUCH, () -> x.clone(item, 1, 0));
            checks.due("clone below", Checks.NO_SUCH, () -> x.clone(1, item, 0));
            checks.due("detach", Checks.NO_SUCH, () -> x.detach(item, 0));
            checks.due("moveBlock", Checks.NO_SUCH, () -> x.moveBlock(item, 0, 0, 1, 0));
            checks.due("moveBlock to it", Checks.NO_SUCH, () -> x.moveBlock(0, 0, 0, item, 0));
            checks.due("rename", Checks.NO_SUCH, () -> x.rename(item));
            checks.due("setNumber", Checks.NO_SUCH, () -> x.setNumber(item, true, 0));
            checks.due("setFlag", Checks.NO_SUCH, () -> x.setFlag(item, true, true));
            checks.due("related", Checks.NO_SUCH, () -> x.related(item, 0, true));
            checks.due("letter", Checks.NO_SUCH, () -> x.letter(item, 0));
            checks.due("isBelow", Checks.NO_SUCH, () -> x.isBelow(item, 0));
            checks.due("isBelow it", Checks.NO_SUCH, () -> x.isBelow(1, item));
            checks.due("doneShare", Checks.NO_SUCH, () -> x.doneShare(item));
            checks.due("meanValue", Checks.NO_SUCH, () -> x.meanValue(item));
            checks.due("hoist", Checks.NO_SUCH, () -> x.hoist(item));
            checks.due("load", Checks.NO_SUCH, () -> x.load(item));
            checks.due("lineOf", -1, () -> x.lineOf(item));
        }
        checks.due("the one behind it is there", 1, () -> x.item(4, 2));
    }

    private static CloneOutliner withAdded(int count) {
        CloneOutliner x = new CloneOutliner();
        for (int parent = 0; x.outline(1) < count; parent++) {
            Checks.fill(x, parent, Math.min(12, count - x.outline(1)));
        }
        return x;
    }

    private static void sixtyByAdd() {
        checks.about("Items: At most 60 items can be added");
        CloneOutliner x = withAdded(59);
        checks.due("the 60th", 60, () -> Checks.add(x, 50, 0, "z"));
        checks.same("it is there", "z", Checks.name(x, 60));
        String before = Checks.contents(x);
        checks.refused("the 61st", "10 1", x, () -> Checks.add(x, 50, 0, "z"));
        checks.same("as it was", before, Checks.contents(x));
        checks.due("61 is none", Checks.NO_SUCH, () -> x.item(61, 0));
        x.detach(50, 0);
        x.detach(0, 0);
        checks.refused("also when some are removed", "10 1", x, () -> Checks.add(x, 50, 0, "z"));
        x.undo();
        x.undo();
        x.undo();
        checks.due("unless an adding is undone", 59, () -> x.outline(1));
        checks.due("the 60th again", 60, () -> Checks.add(x, 50, 0, "y"));
        x.clear();
        checks.due("or all is cleared", 1, () -> Checks.add(x, 0, 0, "z"));
    }

    private static void sixtyByLoad() {
        CloneOutliner x = withAdded(57);
        checks.refused("four more", "60 103 1", x, () -> Checks.load(x, 50, "a;b;c;d"));
        checks.due("57 still", 57, () -> x.outline(1));
        checks.due("three more", 3, () -> Checks.load(x, 50, "a;b;c"));
        checks.due("60", 60, () -> x.outline(1));
        checks.same("the 60th", "c", Checks.name(x, 60));
        checks.refused("one more", "60 100 1", x, () -> Checks.load(x, 51, "d"));
    }

    private static void sixtyAndClones() {
        CloneOutliner x = withAdded(58);
        checks.due("a clone is not added", 2, () -> x.clone(58, 50, 0));
        checks.due("nor one of a text", 3, () -> Checks.load(x, 51, "a;b;.*0"));
        checks.due("60", 60, () -> x.outline(1));
        checks.due("60 do not matter for a clone", 2, () -> x.clone(57, 50, 1));
        checks.due("nor for a move", 2, () -> x.moveBlock(50, 0, 1, 52, 0));
    }

    private static void namesOfOneToTenLetters() {
        checks.about("Items: a name of 1 to 10 letters");
        CloneOutliner x = new CloneOutliner();
        checks.due("1 letter", 1, () -> Checks.add(x, 0, 0, "q"));
        checks.due("10 letters", 2, () -> Checks.add(x, 0, 1, "abcdefghij"));
        checks.same("all of them", "abcdefghij", Checks.name(x, 2));
        checks.due("no letter", Checks.ARGUMENT, () -> Checks.add(x, 0, 0, ""));
        checks.due("11 letters", Checks.ARGUMENT, () -> Checks.add(x, 0, 0, "abcdefghijk"));
        Checks.type(x, "abcdefghij");
        checks.due("10 letters by rename", 1, () -> x.rename(1));
        Checks.type(x, "z");
        checks.due("1 letter by rename", 10, () -> x.rename(1));
        checks.due("no letter by rename", Checks.ARGUMENT, () -> x.rename(1));
        Checks.type(x, "abcdefghijk");
        checks.due("11 letters by rename", Checks.ARGUMENT, () -> x.rename(1));
        checks.same("as it was", "z", Checks.name(x, 1));
        checks.due("both by load", 2, () -> Checks.load(x, 0, "r;bcdefghijk"));
        checks.same("1 and 10", "r bcdefghijk", Checks.name(x, 3) + " " + Checks.name(x, 4));
        checks.due("no letter by load", Checks.ARGUMENT, () -> Checks.load(x, 0, "a;=1"));
        checks.due("11 letters by load", Checks.ARGUMENT, () -> Checks.load(x, 0, "a;abcdefghijk"));
    }

    private static void lettersFromAToZ() {
        checks.about("Items: letters a to z");
        String all = "abcdefghijklmnopqrstuvwxyz";
        CloneOutliner x = new CloneOutliner();
        for (int at = 0; at < all.length(); at++) {
            Checks.add(x, at / 12, at % 12, all.substring(at, at + 1));
            checks.same("the letter", all.substring(at, at + 1), Checks.name(x, at + 1));
        }
        for (int code = 32; code <= 126; code++) {
            String sign = "" + (char) code;
            if (all.indexOf(code) < 0) {
                checks.due("no letter " + sign, Checks.ARGUMENT, () -> Checks.add(x, 20, 0, sign));
                checks.due("at its place", 0, x::errorPosition);
                Checks.type(x, "a" + sign);
                checks.due("no letter " + sign, Checks.ARGUMENT, () -> x.rename(1));
                checks.due("at its place", 1, x::errorPosition);
            }
        }
    }

    private static void valuesAtFirst() {
        checks.about("Items: value at first 0, day at first none, at first not done, at first not folded");
        CloneOutliner x = new CloneOutliner();
        checks.same("of the root", "0 -1 0 0", firstFigures(x, 0));
        Checks.add(x, 0, 0, "a");
        checks.same("of an added one", "0 -1 0 0", firstFigures(x, 1));
        Checks.load(x, 0, "b");
        checks.same("of a loaded one", "0 -1 0 0", firstFigures(x, 2));
        x.setNumber(2, false, 7);
        x.setNumber(2, true, 8);
        x.setFlag(2, true, true);
        x.setFlag(2, false, true);
        for (int count = 0; count < 5; count++) {
            x.undo();
        }
        Checks.add(x, 0, 1, "c");
        checks.same("of one that bears a number again", "0 -1 0 0", firstFigures(x, 2));
    }

    private static void valuesOfLoadedItems() {
        CloneOutliner x = Checks.outlineOf("a@5=6x;b;c@7;d=8;e@9x;f=1x");
        checks.same("figures", "6 5 1 0", firstFigures(x, 1));
        checks.same("nothing of the entry before", "0 -1 0 0", firstFigures(x, 2));
        checks.same("no value", "0 7 0 0", firstFigures(x, 3));
        checks.same("no day", "8 -1 0 0", firstFigures(x, 4));
        checks.same("no value, done", "0 9 1 0", firstFigures(x, 5));
        checks.same("no day, done", "1 -1 1 0", firstFigures(x, 6));
        Checks.load(x, 0, "g;h@1=2x");
        checks.same("nothing of the text before", "0 -1 0 0", firstFigures(x, 7));
        checks.same("nor of its first entry", "2 1 1 0", firstFigures(x, 8));
    }

    private static String firstFigures(CloneOutliner x, int item) {
        return x.item(item, 4) + " " + x.item(item, 5) + " " + x.item(item, 6) + " " + x.item(item, 7);
    }

    private static void valueBounds() {
        checks.about("Items: a value from -999 to 999");
        CloneOutliner x = Checks.outlineOf("a=-999;b=999;c");
        checks.same("by load", "-999 999", x.item(1, 4) + " " + x.item(2, 4));
        for (int item : new int[] {0, 3}) {
            checks.due("the least", 0, () -> x.setNumber(item, false, -999));
            checks.due("is kept", -999, () -> x.item(item, 4));
            checks.due("the greatest", -999, () -> x.setNumber(item, false, 999));
            checks.due("is kept", 999, () -> x.item(item, 4));
            for (int number : new int[] {-1000, 1000, 9999, Integer.MIN_VALUE, Integer.MAX_VALUE}) {
                checks.due("not " + number, Checks.ARGUMENT, () -> x.setNumber(item, false, number));
            }
            checks.due("is still kept", 999, () -> x.item(item, 4));
        }
        checks.due("no lesser one by load", Checks.ARGUMENT, () -> Checks.load(x, 0, "d=-1000"));
        checks.due("no greater one by load", Checks.ARGUMENT, () -> Checks.load(x, 0, "d=1000"));
    }

    private static void dayBounds() {
        checks.about("Items: a day from 0 to 9999 or none");
        CloneOutliner x = Checks.outlineOf("a@0;b@9999;c");
        checks.same("by load", "0 9999", x.item(1, 5) + " " + x.item(2, 5));
        for (int item : new int[] {0, 3}) {
            checks.due("the earliest", -1, () -> x.setNumber(item, true, 0));
            checks.due("is kept", 0, () -> x.item(item, 5));
            checks.due("the latest", 0, () -> x.setNumber(item, true, 9999));
            checks.due("is kept", 9999, () -> x.item(item, 5));
            for (int number : new int[] {-2, -999, 10000, Integer.MIN_VALUE, Integer.MAX_VALUE}) {
                checks.due("not " + number, Checks.ARGUMENT, () -> x.setNumber(item, true, number));
            }
            checks.due("none", 9999, () -> x.setNumber(item, true, -1));
            checks.due("is kept", -1, () -> x.item(item, 5));
        }
        checks.due("no later one by load", Checks.ARGUMENT, () -> Checks.load(x, 0, "d@10000"));
    }

    private static void twelveByAdd() {
        checks.about("Tree: Each item has up to 12 children");
        for (int parent : new int[] {0, 1}) {
            CloneOutliner x = Checks.outlineOf("a;.b");
            Checks.fill(x, parent, 11);
            int next = x.outline(1) + 1;
            checks.due("the 12th", next, () -> Checks.add(x, parent, 11, "n"));
            checks.due("12", 12, () -> x.item(parent, 1));
            checks.due("the last one", next, () -> x.related(parent, 11, false));
            checks.refused("the 13th", "10 1", x, () -> Checks.add(x, parent, 12, "n"));
            checks.refused("also at the front", "10 1", x, () -> Checks.add(x, parent, 0, "n"));
            x.detach(parent, 0);
            checks.due("a 12th again", next + 1, () -> Checks.add(x, parent, 0, "n"));
        }
    }

    private static void twelveByClone() {
        CloneOutliner x = Checks.outlineOf("a;b;c");
        Checks.fill(x, 1, 11);
        checks.due("the 12th", 2, () -> x.clone(2, 1, 5));
        checks.due("12", 12, () -> x.item(1, 1));
        checks.refused("the 13th", "20 1", x, () -> x.clone(3, 1, 12));
        checks.due("still 12", 12, () -> x.item(1, 1));
    }

    private static void twelveByMoveBlock() {
        CloneOutliner x = Checks.outlineOf("a;b;c;d");
        Checks.fill(x, 1, 10);
        checks.refused("the 11th to 13th", "30 102 1", x, () -> x.moveBlock(0, 1, 3, 1, 0));
        checks.same("nothing is moved", "1 2 3 4", Checks.related(x, 0, false));
        checks.due("the 11th and 12th", 2, () -> x.moveBlock(0, 1, 2, 1, 10));
        checks.refused("the 13th", "30 100 1", x, () -> x.moveBlock(0, 1, 1, 1, 0));
        checks.due("12 within their parent", 12, () -> x.moveBlock(1, 0, 11, 1, 0));
        checks.due("one within its parent", 1, () -> x.moveBlock(1, 0, 0, 1, 11));
        CloneOutliner y = Checks.outlineOf("a;b");
        Checks.fill(y, 1, 12);
        checks.due("all 12 to another one", 12, () -> y.moveBlock(1, 0, 11, 2, 0));
        checks.due("none is left", 0, () -> y.item(1, 1));
        Checks.add(y, 1, 0, "m");
        checks.refused("all 12 are one too many", "30 111 1", y, () -> y.moveBlock(2, 0, 11, 1, 1));
    }

    private static void twelveByIndent() {
        CloneOutliner x = Checks.outlineOf("a;b;c");
        Checks.fill(x, 1, 11);
        checks.due("the 12th", 1, () -> x.indent(x.lineOf(2)));
        checks.due("at the end", 2, () -> x.related(1, 11, false));
        checks.refused("the 13th", "40 1", x, () -> x.indent(x.lineOf(3)));
        checks.same("as it was", "1 3", Checks.related(x, 0, false));
    }

    private static void twelveByOutdent() {
        CloneOutliner x = Checks.outlineOf("a;.b;.c");
        Checks.fill(x, 0, 11);
        checks.due("the 12th", 0, () -> x.outdent(1));
        checks.due("right behind", 2, () -> x.related(0, 1, false));
        checks.refused("the 13th", "50 1", x, () -> x.outdent(1));
        checks.same("as it was", "3", Checks.related(x, 1, false));
    }

    private static void twelveByLoad() {
        CloneOutliner x = Checks.outlineOf("a");
        checks.refused("13 of a text", "60 112 1", x, () -> Checks.load(x, 1, "a;b;c;d;e;f;g;h;i;j;k;l;m"));
        checks.due("none of them", 0, () -> x.item(1, 1));
        checks.due("12 of a text", 12, () -> Checks.load(x, 1, "a;b;c;d;e;f;g;h;i;j;k;l"));
        checks.refused("one more", "60 100 1", x, () -> Checks.load(x, 1, "m"));
        checks.refused("13 below an entry", "60 113 1", x,
            () -> Checks.load(x, 0, "a;.b;.c;.d;.e;.f;.g;.h;.i;.j;.k;.l;.m;.n"));
        checks.refused("a clone as the 13th", "60 114 1", x,
            () -> Checks.load(x, 0, "z;a;.b;.c;.d;.e;.f;.g;.h;.i;.j;.k;.l;.m;.*0"));
        checks.due("a clone as the 12th", 14,
            () -> Checks.load(x, 0, "z;a;.b;.c;.d;.e;.f;.g;.h;.i;.j;.k;.l;.*0"));
    }

    private static void differentChildren() {
        checks.about("Tree: children, which are different items");
        CloneOutliner x = Checks.outlineOf("a;.b;c;.*1;d");
        checks.refused("clone", "20 2", x, () -> x.clone(2, 1, 0));
        checks.refused("clone", "20 2", x, () -> x.clone(2, 3, 1));
        checks.refused("moveBlock", "30 100 2", x, () -> x.moveBlock(1, 0, 0, 3, 0));
        checks.due("clone to one more", 3, () -> x.clone(2, 0, 1));
        checks.refused("indent", "40 2", x, () -> x.indent(x.lineOf(2) + 1));
        checks.refused("outdent", "50 2", x, () -> x.outdent(1));
        checks.refused("load", "60 103 2", x, () -> Checks.load(x, 0, "e;.f;.g;.*1"));
        checks.due("not in another one", 4, () -> Checks.load(x, 0, "e;.f;g;.*1"));
        checks.due("moved within its parent, it is taken away first", 1, () -> x.moveBlock(1, 0, 0, 1, 0));
    }

    private static void rootIsNoChild() {
        checks.about("Tree: items other than the root");
        CloneOutliner x = Checks.outlineOf("a");
        checks.due("by clone", Checks.NO_SUCH, () -> x.clone(0, 1, 0));
        checks.due("nor of itself", Checks.NO_SUCH, () -> x.clone(0, 0, 0));
        checks.due("no parents", 0, () -> x.item(0, 0));
        checks.due("nor a line", -1, () -> x.lineOf(0));
    }

    private static void childOfAtLeastOne() {
        checks.about("Tree: An item other than the root is a child of at least one item; these are its parents");
        CloneOutliner x = Checks.outlineOf("a;.b;c;.*1");
        checks.same("two parents", "1 3", Checks.related(x, 2, true));
        checks.due("one is left", 0, () -> x.detach(3, 0));
        checks.same("one parent", "1", Checks.related(x, 2, true));
        checks.due("none would be left", 1, () -> x.detach(1, 0));
        checks.due("so that it is no more", Checks.NO_SUCH, () -> x.item(2, 0));
    }

    private static void belowByAnyWay() {
        checks.about("Tree: An item is below another one if it is a child of it, or below a child of it");
        CloneOutliner x = Checks.outlineOf("a;.b;..c;...d;e;.*2");
        String below = "";
        for (int item = 0; item <= 5; item++) {
            for (int other = 0; other <= 5; other++) {
                below += x.isBelow(item, other) ? " " + item + other : "";
            }
        }
        checks.same("all pairs", " 10 20 21 30 31 32 35 40 41 42 43 45 50", below);
    }

    private static void noItemBelowItself() {
        checks.about("Tree: No item is below itself");
        CloneOutliner x = Checks.outlineOf("a;.b;..c;d");
        checks.refused("clone in itself", "20 3", x, () -> x.clone(1, 1, 1));
        checks.refused("clone in its child", "20 3", x, () -> x.clone(1, 2, 0));
        checks.refused("clone far below it", "20 3", x, () -> x.clone(1, 3, 0));
        checks.refused("moveBlock in itself", "30 100 3", x, () -> x.moveBlock(0, 0, 0, 1, 1));
        checks.refused("moveBlock in its child", "30 100 3", x, () -> x.moveBlock(0, 0, 0, 2, 0));
        checks.refused("moveBlock far below it", "30 100 3", x, () -> x.moveBlock(0, 0, 0, 3, 0));
        x.clone(3, 0, 0);
        x.clone(4, 3, 0);
        checks.same("lines", "c c/d a a/b a/b/c a/b/c/d d", Checks.paths(x));
        checks.refused("indent", "40 3", x, () -> x.indent(2));
        checks.refused("load in itself", "60 101 3", x, () -> Checks.load(x, 0, "e;.*0"));
        checks.refused("load in its child", "60 102 3", x, () -> Checks.load(x, 0, "e;.f;..*0"));
        checks.refused("load far below it", "60 103 3", x, () -> Checks.load(x, 0, "e;.f;..g;...*0"));
        checks.due("a load beside it", 3, () -> Checks.load(x, 2, "e;f;.*0"));
    }

    private static void rootHasOnePlace() {
        checks.about("Tree: the root has one place");
        CloneOutliner x = new CloneOutliner();
        checks.due("alone", 1, () -> x.item(0, 2));
        checks.due("but it does not count", 0, () -> x.outline(2));
        Checks.load(x, 0, "a;b;.*0");
        checks.due("with others", 1, () -> x.item(0, 2));
        checks.due("which count", 3, () -> x.outline(2));
    }

    private static void placesAreWays() {
        checks.about("Tree: A place of an item is a way from the root to it");
        CloneOutliner x = Checks.outlineOf("a;.b;..c;*1;*2;d;.*1;.*2");
        int[] places = {1, 1, 3, 5, 1};
        int[] parents = {0, 1, 3, 3, 1};
        for (int item = 0; item <= 4; item++) {
            int number = item;
            checks.due("parents of " + item, parents[item], () -> x.item(number, 0));
            checks.due("places of " + item, places[item], () -> x.item(number, 2));
        }
        checks.due("together", 10, () -> x.outline(2));
        checks.due("a line each", 10, () -> x.outline(3));
    }

    private static void threeHundredByAdd() {
        checks.about("Tree: All items but the root have at most 300 places together");
        CloneOutliner x = Checks.withPlaces(299);
        checks.due("the 300th", x.outline(1) + 1, () -> Checks.add(x, 1, 0, "n"));
        checks.due("300", 300, () -> x.outline(2));
        checks.refused("the 301st", "10 4", x, () -> Checks.add(x, 1, 0, "n"));
        CloneOutliner y = Checks.withPlaces(298);
        checks.due("two at once", y.outline(1) + 1, () -> Checks.add(y, 2, 0, "n"));
        checks.due("300", 300, () -> y.outline(2));
        CloneOutliner z = Checks.withPlaces(299);
        checks.refused("two at once", "10 4", z, () -> Checks.add(z, 2, 0, "n"));
        checks.due("299", 299, () -> z.outline(2));
    }

    private static int lastLeaf(CloneOutliner x) {
        return x.related(0, x.item(0, 1) - 1, false);
    }

    private static void threeHundredByClone() {
        CloneOutliner x = Checks.withPlaces(299);
        checks.due("the 300th", 2, () -> x.clone(lastLeaf(x), 1, 0));
        checks.due("300", 300, () -> x.outline(2));
        checks.refused("the 301st", "20 4", x, () -> x.clone(x.related(0, 5, false), 1, 0));
        CloneOutliner y = Checks.withPlaces(298);
        Checks.type(y, "m");
        y.add(lastLeaf(y), 0);
        checks.refused("two places, each with one below", "20 4", y, () -> y.clone(lastLeaf(y), 2, 0));
        CloneOutliner z = Checks.withPlaces(297);
        Checks.add(z, 0, 0, "m");
        checks.due("two places", 3, () -> z.clone(z.related(0, 0, false), 2, 0));
        checks.due("300", 300, () -> z.outline(2));
    }

    private static void threeHundredByMoveBlock() {
        CloneOutliner x = Checks.withPlaces(299);
        checks.due("one more place", 1, () -> x.moveBlock(0, 6, 6, 2, 0));
        checks.due("300", 300, () -> x.outline(2));
        CloneOutliner y = Checks.withPlaces(300);
        checks.refused("one more place", "30 100 4", y, () -> y.moveBlock(0, 7, 7, 2, 0));
        checks.due("as many places", 2, () -> y.moveBlock(0, 6, 7, 1, 0));
        checks.due("300", 300, () -> y.outline(2));
        CloneOutliner z = Checks.withPlaces(300);
        checks.refused("the later ones are away still, so that the first one fits", "30 101 4", z,
            () -> z.moveBlock(0, 5, 7, 2, 0));
        checks.due("300", 300, () -> z.outline(2));
    }

    private static void threeHundredByIndent() {
        CloneOutliner x = Checks.withPlaces(299);
        x.moveBlock(0, 6, 6, 0, 2);
        checks.due("one more place", 2, () -> x.indent(x.lineOf(x.related(0, 2, false))));
        checks.due("300", 300, () -> x.outline(2));
        CloneOutliner y = Checks.withPlaces(300);
        y.moveBlock(0, 7, 7, 0, 2);
        checks.refused("one more place", "40 4", y, () -> y.indent(y.lineOf(y.related(0, 2, false))));
        y.moveBlock(0, 2, 2, 0, 1);
        checks.due("as many places", 1, () -> y.indent(y.lineOf(y.related(0, 1, false))));
        checks.due("300", 300, () -> y.outline(2));
    }

    private static void outdentAtThreeHundred() {
        CloneOutliner x = Checks.withPlaces(300);
        int leaf = lastLeaf(x);
        x.moveBlock(0, 7, 7, 1, 0);
        checks.due("as many places", 0, () -> x.outdent(x.lineOf(leaf)));
        checks.due("300", 300, () -> x.outline(2));
    }

    private static void threeHundredByLoad() {
        CloneOutliner x = Checks.withPlaces(298);
        checks.refused("the 301st is the third", "60 102 4", x, () -> Checks.load(x, 0, "a;.b;..c"));
        checks.refused("the 301st is a clone", "60 102 4", x, () -> Checks.load(x, 0, "a;b;.*0"));
        checks.due("298", 298, () -> x.outline(2));
        checks.due("up to 300", 2, () -> Checks.load(x, 0, "a;.b"));
        checks.due("300", 300, () -> x.outline(2));
        checks.refused("the 301st", "60 100 4", x, () -> Checks.load(x, 1, "a"));
        CloneOutliner y = Checks.withPlaces(297);
        checks.due("up to 300 with a clone", 3, () -> Checks.load(y, 0, "a;b;.*0"));
        checks.due("300", 300, () -> y.outline(2));
    }
}
