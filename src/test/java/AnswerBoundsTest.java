/** The sentences on what is rolled up, and the promises 13 to 19, at their bounds. */
public final class AnswerBoundsTest {
    private static final Checks checks = new Checks();

    public static void main(String[] args) {
        familyOnce();
        familyOfAlone();
        sumBounds();
        sumOnce();
        spanOfNone();
        spanOfOne();
        spanBounds();
        leaves();
        leavesAreWithoutChildren();
        ownLeaf();
        everyNumberOfAnItem();
        numbersOfTheRoot();
        manyParents();
        manyPlaces();
        placesBelow();
        lengthsOfNames();
        relatedInOrder();
        belowBounds();
        outlineAtFirst();
        outlineItemsAndAdded();
        outlinePlacesAndLines();
        outlineHoists();
        outlineConditionsAndFitting();
        outlineBufferAndChanges();
        outlineSteps();
        doneShares();
        meanValues();
        checks.end("AnswerBoundsTest");
    }

    /** 3 stands below 1 by 2 and by 4, and below 5. */
    private static CloneOutliner diamond() {
        return Checks.outlineOf("a=1;.b=10;..d=100x;.c=20;..*2;e=5;.*2");
    }

    private static void familyOnce() {
        checks.about("Rolled up: itself and all items below it, each of them once");
        CloneOutliner x = diamond();
        checks.same("items of the families", "6 4 2 1 2 2", x.item(0, 8) + " " + x.item(1, 8) + " " + x.item(2, 8)
            + " " + x.item(3, 8) + " " + x.item(4, 8) + " " + x.item(5, 8));
        x.clone(3, 1, 0);
        checks.due("also when a child is a child of a child", 4, () -> x.item(1, 8));
    }

    private static void familyOfAlone() {
        CloneOutliner x = Checks.outlineOf("a");
        checks.due("itself alone", 1, () -> x.item(1, 8));
        checks.due("the root and it", 2, () -> x.item(0, 8));
        checks.due("the root alone", 1, () -> new CloneOutliner().item(0, 8));
        CloneOutliner y = new CloneOutliner();
        for (int parent = 0; parent <= 4; parent++) {
            Checks.fill(y, parent, 12);
        }
        checks.due("all 61", 61, () -> y.item(0, 8));
        checks.due("13", 13, () -> y.item(4, 8));
        y.detach(0, 3);
        checks.due("without those that are removed", 48, () -> y.item(0, 8));
    }

    private static void sumBounds() {
        checks.about("Rolled up: the sum of an item is the sum of the values of its family");
        for (int value : new int[] {-999, 999}) {
            CloneOutliner x = new CloneOutliner();
            x.setNumber(0, false, value);
            checks.due("alone", value, () -> x.item(0, 9));
            for (int item = 1; item <= 60; item++) {
                Checks.add(x, item / 12, 0, "n");
                x.setNumber(item, false, value);
            }
            checks.due("all 61", 61 * value, () -> x.item(0, 9));
            checks.due("their mean", (double) value, () -> x.meanValue(0));
        }
    }

    private static void sumOnce() {
        CloneOutliner x = diamond();
        checks.same("each value once", "136 131 110 100 120 105", x.item(0, 9) + " "
            + x.item(1, 9) + " " + x.item(2, 9) + " " + x.item(3, 9) + " " + x.item(4, 9) + " " + x.item(5, 9));
        x.setNumber(3, false, -7);
        checks.same("one value for all clones", "29 24 3 -7 13 -2", x.item(0, 9) + " " + x.item(1, 9) + " "
            + x.item(2, 9) + " " + x.item(3, 9) + " " + x.item(4, 9) + " " + x.item(5, 9));
    }

    private static String span(CloneOutliner x, int item) {
        return x.item(item, 10) + " " + x.item(item, 11);
    }

    private static void spanOfNone() {
        checks.about("Rolled up: Its span goes from the earliest to the latest day of those that have a day");
        CloneOutliner x = Checks.outlineOf("a;.b;c@5");
        checks.same("none has a day", "-1 -1", span(x, 1));
        checks.same("the root alone", "-1 -1", span(new CloneOutliner(), 0));
        x.setNumber(3, true, -1);
        checks.same("none has a day any more", "-1 -1", span(x, 0));
    }

    private static void spanOfOne() {
        CloneOutliner x = Checks.outlineOf("a@0;.b;c;.d@9999;e@7;f");
        checks.same("its own day, 0", "0 0", span(x, 1));
        checks.same("that of its child, 9999", "9999 9999", span(x, 3));
        checks.same("none above it counts", "-1 -1", span(x, 2));
        checks.same("alone", "7 7", span(x, 5));
        checks.same("none beside it counts", "-1 -1", span(x, 6));
        checks.same("all", "0 9999", span(x, 0));
    }

    private static void spanBounds() {
        CloneOutliner x = Checks.outlineOf("a@5;.b@4;..c@6;.d;.e@5;f;.*2");
        checks.same("its own one is neither", "4 6", span(x, 1));
        checks.same("of a child of a child", "6 6", span(x, 6));
        x.setNumber(6, true, 6);
        checks.same("the same day twice", "6 6", span(x, 6));
        x.setNumber(0, true, 3);
        checks.same("the root's day", "3 6", span(x, 0));
        x.setNumber(0, true, 7);
        checks.same("the root's day", "4 7", span(x, 0));
        x.setNumber(0, true, 0);
        checks.same("0 is a day", "0 6", span(x, 0));
        x.setNumber(0, true, -1);
        checks.same("none is not", "4 6", span(x, 0));
    }

    private static String leafCounts(CloneOutliner x, int item) {
        return x.item(item, 12) + " " + x.item(item, 13);
    }

    private static void leaves() {
        checks.about("Rolled up: Its leaves are the items of its family without children");
        CloneOutliner x = diamond();
        checks.same("one, though on two ways", "1 1", leafCounts(x, 1));
        checks.same("one of all", "1 1", leafCounts(x, 0));
        Checks.add(x, 5, 0, "f");
        checks.same("one more", "2 1", leafCounts(x, 0));
        checks.same("not elsewhere", "1 1", leafCounts(x, 1));
        x.setFlag(6, false, true);
        checks.same("done, too", "2 2", leafCounts(x, 5));
        x.setFlag(3, false, false);
        checks.same("not done", "2 1", leafCounts(x, 5));
    }

    private static void leavesAreWithoutChildren() {
        CloneOutliner x = Checks.outlineOf("a=0x;.b=0x;..c");
        checks.same("done ones with children do not count", "1 0", leafCounts(x, 0));
        x.detach(2, 0);
        checks.same("b has none now", "1 1", leafCounts(x, 0));
        x.setFlag(0, false, true);
        checks.same("nor does the root", "1 1", leafCounts(x, 0));
        x.setFlag(2, true, true);
        checks.same("a fold does not matter", "1 1", leafCounts(x, 1));
    }

    private static void ownLeaf() {
        checks.about("Details: An item without children is its own leaf");
        CloneOutliner x = Checks.outlineOf("a;b=0x");
        checks.same("not done", "1 0", leafCounts(x, 1));
        checks.same("done", "1 1", leafCounts(x, 2));
        CloneOutliner y = new CloneOutliner();
        checks.same("the root, too", "1 0", leafCounts(y, 0));
        y.setFlag(0, false, true);
        checks.same("done", "1 1", leafCounts(y, 0));
    }

    private static void everyNumberOfAnItem() {
        checks.about("promise 13, each number by itself");
        CloneOutliner x = Checks.outlineOf("p;.abc@20=-4x;..q@30=7;...r=2x;..s@10;t;.*1");
        x.setFlag(2, true, true);
        int[] due = {2, 2, 2, 3, -4, 20, 1, 1, 4, 5, 10, 30, 2, 1, 3};
        for (int what = 0; what < due.length; what++) {
            int number = what;
            checks.due("what " + what, due[what], () -> x.item(2, number));
        }
    }

    private static void numbersOfTheRoot() {
        CloneOutliner x = Checks.outlineOf("a@8=3x;.b@6=-5;c=9");
        x.setNumber(0, false, 50);
        x.setNumber(0, true, 7);
        x.setFlag(0, true, true);
        x.setFlag(0, false, true);
        int[] due = {0, 2, 1, 0, 50, 7, 1, 1, 4, 57, 6, 8, 2, 0, 3};
        for (int what = 0; what < due.length; what++) {
            int number = what;
            checks.due("what " + what + " of the root", due[what], () -> x.item(0, number));
        }
    }

    private static void manyParents() {
        checks.about("promise 13, 0 for its parents");
        CloneOutliner x = new CloneOutliner();
        Checks.fill(x, 0, 12);
        for (int parent = 11; parent >= 1; parent--) {
            x.clone(12, parent, 0);
        }
        checks.due("12", 12, () -> x.item(12, 0));
        checks.due("12 places", 12, () -> x.item(12, 2));
        checks.same("ascending", "0 1 2 3 4 5 6 7 8 9 10 11", Checks.related(x, 12, true));
        Checks.add(x, 12, 0, "m");
        checks.due("one parent", 1, () -> x.item(13, 0));
        checks.due("but 12 places", 12, () -> x.item(13, 2));
        x.detach(0, 4);
        checks.due("11 are left", 11, () -> x.item(12, 0));
        checks.same("ascending", "0 1 2 3 4 6 7 8 9 10 11", Checks.related(x, 12, true));
        x.moveBlock(0, 0, 0, 2, 1);
        checks.same("ascending, though 1 is below 2", "0 1 2 3 4 6 7 8 9 10 11", Checks.related(x, 12, true));
    }

    private static void manyPlaces() {
        checks.about("promise 13, 2 for its places");
        CloneOutliner x = Checks.withPlaces(300);
        int sum = 0;
        for (int item = 1; item <= x.outline(1); item++) {
            sum += x.item(item, 2);
        }
        checks.same("together", 300, sum);
        CloneOutliner y = Checks.outlineOf("a;.b;..c;d;.*1");
        y.hoist(4);
        checks.same("also while an item is hoisted", "1 2 2 1", y.item(1, 2) + " " + y.item(2, 2) + " " + y.item(3, 2)
            + " " + y.item(4, 2));
    }

    private static void placesBelow() {
        checks.about("promise 13, 14 for the places below one of its places");
        CloneOutliner x = Checks.outlineOf("a;.b;..c;..d;.*2;e;.*1");
        checks.same("below one place", "9 4 2 0 0 3", x.item(0, 14) + " " + x.item(1, 14) + " " + x.item(2, 14) + " "
            + x.item(3, 14) + " " + x.item(4, 14) + " " + x.item(5, 14));
        x.setFlag(2, true, true);
        Checks.filter(x, "~a");
        checks.due("whatever is shown", 4, () -> x.item(1, 14));
    }

    private static void lengthsOfNames() {
        checks.about("promise 13, 3 for the length of its name, 0 for the root");
        CloneOutliner x = Checks.outlineOf("a;abcdefghij");
        checks.same("0, 1 and 10", "0 1 10", x.item(0, 3) + " " + x.item(1, 3) + " " + x.item(2, 3));
        Checks.type(x, "ab");
        x.rename(2);
        checks.due("2", 2, () -> x.item(2, 3));
        checks.due("no letter of the former name", Checks.INDEX, () -> x.letter(2, 2));
    }

    private static void relatedInOrder() {
        checks.about("promise 14, in ascending order of their numbers");
        CloneOutliner x = Checks.outlineOf("a;b;c;d");
        x.clone(4, 3, 0);
        x.clone(4, 1, 0);
        x.detach(0, 3);
        checks.same("not in the order of cloning", "1 3", Checks.related(x, 4, true));
        x.moveBlock(0, 2, 2, 0, 0);
        checks.same("not in the order of the children", "1 3", Checks.related(x, 4, true));
        checks.same("children in theirs", "3 1 2", Checks.related(x, 0, false));
        x.detach(0, 0);
        checks.same("none that is removed", "1", Checks.related(x, 4, true));
    }

    private static void belowBounds() {
        checks.about("promise 16");
        CloneOutliner x = new CloneOutliner();
        for (int item = 0; item < 60; item++) {
            Checks.add(x, item, 0, "n");
        }
        checks.due("the last one below the root", true, () -> x.isBelow(60, 0));
        checks.due("59 steps", true, () -> x.isBelow(60, 1));
        checks.due("one step", true, () -> x.isBelow(60, 59));
        checks.due("itself", false, () -> x.isBelow(60, 60));
        checks.due("the other way", false, () -> x.isBelow(59, 60));
        checks.due("the root", false, () -> x.isBelow(0, 60));
        x.detach(30, 0);
        checks.due("30 below the root", true, () -> x.isBelow(30, 0));
        checks.due("31 is no more", Checks.NO_SUCH, () -> x.isBelow(31, 0));
    }

    private static void outlineAtFirst() {
        checks.about("promise 17, each number by itself");
        CloneOutliner x = new CloneOutliner();
        for (int what = 0; what <= 10; what++) {
            int number = what;
            checks.due("at first, what " + what, what == 0 ? 1 : 0, () -> x.outline(number));
        }
    }

    private static void outlineItemsAndAdded() {
        CloneOutliner x = Checks.outlineOf("a;.b;c");
        x.clone(2, 3, 0);
        checks.same("a clone counts once", "4 3", x.outline(0) + " " + x.outline(1));
        x.detach(0, 1);
        checks.same("a removed one was added", "3 3", x.outline(0) + " " + x.outline(1));
        x.detach(0, 0);
        checks.same("all are removed", "1 3", x.outline(0) + " " + x.outline(1));
        x.undo();
        x.undo();
        x.undo();
        x.undo();
        checks.same("an undo takes that back", "1 0", x.outline(0) + " " + x.outline(1));
    }

    private static void outlinePlacesAndLines() {
        CloneOutliner x = Checks.outlineOf("a;.b;..c;d;.*1");
        checks.same("a line for each place", "6 6", x.outline(2) + " " + x.outline(3));
        x.hoist(1);
        checks.same("only lines below the hoisted item", "6 2", x.outline(2) + " " + x.outline(3));
        x.setFlag(2, true, true);
        checks.same("only lines that are shown", "6 1", x.outline(2) + " " + x.outline(3));
        x.hoist(3);
        checks.same("none", "6 0", x.outline(2) + " " + x.outline(3));
    }

    private static void outlineHoists() {
        CloneOutliner x = Checks.outlineOf("a;b");
        checks.same("none", "0 0", x.outline(4) + " " + x.outline(5));
        x.hoist(0);
        checks.same("the root", "0 1", x.outline(4) + " " + x.outline(5));
        x.hoist(2);
        x.hoist(1);
        x.hoist(2);
        checks.same("four", "2 4", x.outline(4) + " " + x.outline(5));
        x.unhoist();
        checks.same("three", "1 3", x.outline(4) + " " + x.outline(5));
    }

    private static void outlineConditionsAndFitting() {
        CloneOutliner x = Checks.outlineOf("a=0x;b=0x;c");
        checks.same("without a filter all but the root", "0 3", x.outline(6) + " " + x.outline(7));
        Checks.filter(x, "done");
        checks.same("one", "1 2", x.outline(6) + " " + x.outline(7));
        Checks.filter(x, "done&done&done&done&done");
        checks.same("five, the same each", "5 2", x.outline(6) + " " + x.outline(7));
        Checks.filter(x, "!done&~c");
        checks.same("two", "2 1", x.outline(6) + " " + x.outline(7));
        x.hoist(3);
        checks.same("also of items without a line", "2 1", x.outline(6) + " " + x.outline(7));
        x.setFlag(0, false, true);
        Checks.filter(x, ">-1");
        checks.same("the root is none of them", "1 3", x.outline(6) + " " + x.outline(7));
        x.filter();
        checks.same("none again", "0 3", x.outline(6) + " " + x.outline(7));
        checks.due("nothing else than the root", 0, () -> {
            CloneOutliner y = new CloneOutliner();
            Checks.filter(y, "leaf");
            return y.outline(7);
        });
    }

    private static void outlineBufferAndChanges() {
        CloneOutliner x = new CloneOutliner();
        Checks.type(x, "a".repeat(80));
        checks.same("80 characters, no change", "80 0", x.outline(8) + " " + x.outline(9));
        checks.due("which are no name", Checks.ARGUMENT, () -> x.add(0, 0));
        checks.same("no character, no change", "0 0", x.outline(8) + " " + x.outline(9));
        Checks.add(x, 0, 0, "a");
        Checks.type(x, "b");
        checks.same("one each", "1 1", x.outline(8) + " " + x.outline(9));
    }

    private static void outlineSteps() {
        checks.about("promise 17, 10 for the greatest number of steps from the root to an item");
        CloneOutliner x = new CloneOutliner();
        for (int steps = 0; steps <= 60; steps++) {
            int due = steps;
            checks.due("in a chain", due, () -> x.outline(10));
            if (steps < 60) {
                Checks.add(x, steps, 0, "n");
            }
        }
        x.clone(60, 0, 0);
        checks.due("the longest way to an item", 60, () -> x.outline(10));
        x.detach(59, 0);
        checks.due("to another one", 59, () -> x.outline(10));
        x.clone(60, 1, 0);
        x.hoist(58);
        checks.due("from the root, not from the hoisted item", 59, () -> x.outline(10));
    }

    private static void doneShares() {
        checks.about("promise 18, both converted to float");
        CloneOutliner x = Checks.outlineOf("a;.a;.a;.a;.a;.a;.a;.a");
        for (int done = 0; done <= 7; done++) {
            float due = (float) done / 7.0f;
            checks.due(done + " of 7", due, () -> x.doneShare(1));
            checks.due(done + " of 7 of the root", due, () -> x.doneShare(0));
            if (done < 7) {
                x.setFlag(2 + done, false, true);
            }
        }
        CloneOutliner y = diamond();
        Checks.load(y, 0, "f;g");
        checks.due("a leaf at several places counts once", 1.0f / 3.0f, () -> y.doneShare(0));
        checks.due("its own leaf, done", 1.0f, () -> y.doneShare(3));
        checks.due("its own leaf, not done", 0.0f, () -> y.doneShare(6));
    }

    private static void meanValues() {
        checks.about("promise 19, both converted to double");
        CloneOutliner x = diamond();
        checks.due("each item once", 131.0 / 4.0, () -> x.meanValue(1));
        checks.due("the root counts", 136.0 / 6.0, () -> x.meanValue(0));
        x.setNumber(0, false, -137);
        checks.due("less than 0", -1.0 / 6.0, () -> x.meanValue(0));
        x.setNumber(0, false, -136);
        checks.due("0", 0.0, () -> x.meanValue(0));
        checks.due("alone", 100.0, () -> x.meanValue(3));
    }
}
