/** The promises 13 to 19: answers about items and the outline. */
public final class AnswersTest {
    private static final Checks checks = new Checks();

    public static void main(String[] args) {
        item();
        itemRolledUp();
        itemOfMany();
        related();
        letter();
        isBelow();
        outline();
        outlineSteps();
        doneShare();
        meanValue();
        checks.end("AnswersTest");
    }

    private static void item() {
        checks.about("promise 13");
        CloneOutliner x = Checks.outlineOf("abc@7=-3x;.b;.c=9;d");
        x.setFlag(1, true, true);
        checks.same("a", "1 2 1 3 -3 7 1 1 3 6 7 7 2 0 2", Checks.itemNumbers(x, 1));
        checks.same("b, its own leaf", "1 0 1 1 0 -1 0 0 1 0 -1 -1 1 0 0", Checks.itemNumbers(x, 2));
        checks.same("root", "0 2 1 0 0 -1 0 0 5 6 7 7 3 0 4", Checks.itemNumbers(x, 0));
        checks.due("what", Checks.ARGUMENT, () -> x.item(0, 15));
        checks.due("what", Checks.ARGUMENT, () -> x.item(0, -1));
        checks.due("what", Checks.ARGUMENT, () -> x.item(1, Integer.MAX_VALUE));
        checks.due("no item comes first", Checks.NO_SUCH, () -> x.item(5, 15));
        checks.due("no item", Checks.NO_SUCH, () -> x.item(-1, 0));
        checks.due("no item", Checks.NO_SUCH, () -> x.item(64, 0));
        checks.due("no item", Checks.NO_SUCH, () -> x.item(Integer.MIN_VALUE, 0));
    }

    private static void itemRolledUp() {
        // c stands below a twice, by b and at once; all is rolled up once.
        CloneOutliner x = Checks.outlineOf("a=1;.b@30=2;..c@20=4x;..d@40=8;.*2;e@10=-50x;.*1");
        checks.same("a", "1 2 1 1 1 -1 0 0 4 15 20 40 2 1 4", Checks.itemNumbers(x, 1));
        checks.same("b", "2 2 2 1 2 30 0 0 3 14 20 40 2 1 2", Checks.itemNumbers(x, 2));
        checks.same("c", "2 0 3 1 4 20 1 0 1 4 20 20 1 1 0", Checks.itemNumbers(x, 3));
        checks.same("root", "0 2 1 0 0 -1 0 0 6 -35 10 40 2 1 9", Checks.itemNumbers(x, 0));
        x.setNumber(0, false, -999);
        x.setNumber(0, true, 0);
        checks.same("the root counts", "-1034 0 40", x.item(0, 9) + " " + x.item(0, 10) + " " + x.item(0, 11));
        x.setNumber(0, true, 9999);
        checks.same("its day, too", "10 9999", x.item(0, 10) + " " + x.item(0, 11));
        x.setFlag(0, false, true);
        checks.due("but is no leaf", 1, () -> x.item(0, 13));
        CloneOutliner y = new CloneOutliner();
        y.setFlag(0, false, true);
        checks.same("unless alone", "1 1", y.item(0, 12) + " " + y.item(0, 13));
    }

    private static void itemOfMany() {
        CloneOutliner x = new CloneOutliner();
        for (int item = 0; item < 60; item++) {
            Checks.add(x, item, 0, "abcdefghij");
            x.setNumber(item + 1, false, 999);
        }
        checks.same("a chain of 60", "0 1 1 0 0 -1 0 0 61 59940 -1 -1 1 0 60", Checks.itemNumbers(x, 0));
        checks.due("59 below", 59, () -> x.item(1, 14));
        checks.due("steps", 60, () -> x.outline(10));
        checks.due("path", 659, () -> x.line(59, 4));
        checks.due("its end", 'j', () -> x.path(59, 658));
        CloneOutliner y = Checks.withPlaces(300);
        checks.same("places", "1 3 5 11 21", y.item(4, 2) + " " + y.item(5, 2) + " " + y.item(6, 2) + " " + y.item(7, 2)
            + " " + y.item(8, 2));
        checks.due("places below", 300, () -> y.item(0, 14));
    }

    private static void related() {
        checks.about("promise 14");
        CloneOutliner x = Checks.outlineOf("a;b;c;.d;*3;e");
        x.clone(4, 2, 0);
        x.clone(4, 1, 0);
        checks.same("children", "1 2 3 4 5", Checks.related(x, 0, false));
        checks.same("parents ascending", "0 1 2 3", Checks.related(x, 4, true));
        x.clone(4, 5, 0);
        x.moveBlock(0, 4, 4, 0, 0);
        checks.same("children in order", "5 1 2 3 4", Checks.related(x, 0, false));
        checks.same("parents ascending", "0 1 2 3 5", Checks.related(x, 4, true));
        checks.due("no child", Checks.INDEX, () -> x.related(0, 5, false));
        checks.due("no child", Checks.INDEX, () -> x.related(0, -1, false));
        checks.due("no parent", Checks.INDEX, () -> x.related(4, 5, true));
        checks.due("no parent", Checks.INDEX, () -> x.related(4, -1, true));
        checks.due("no parent of the root", Checks.INDEX, () -> x.related(0, 0, true));
        checks.due("no item comes first", Checks.NO_SUCH, () -> x.related(6, -1, true));
        checks.due("no item", Checks.NO_SUCH, () -> x.related(-1, 0, false));
        checks.due("great index", Checks.INDEX, () -> x.related(0, Integer.MAX_VALUE, false));
    }

    private static void letter() {
        checks.about("promise 15");
        CloneOutliner x = Checks.outlineOf("azb;abcdefghij");
        checks.due("first", 'a', () -> x.letter(1, 0));
        checks.due("second", 'z', () -> x.letter(1, 1));
        checks.due("tenth", 'j', () -> x.letter(2, 9));
        checks.due("no index", Checks.INDEX, () -> x.letter(1, 3));
        checks.due("no index", Checks.INDEX, () -> x.letter(2, 10));
        checks.due("no index", Checks.INDEX, () -> x.letter(1, -1));
        checks.due("no root", Checks.NO_SUCH, () -> x.letter(0, 0));
        checks.due("no item comes first", Checks.NO_SUCH, () -> x.letter(3, -1));
    }

    private static void isBelow() {
        checks.about("promise 16");
        CloneOutliner x = Checks.outlineOf("a;.b;..c;d;.*2");
        checks.due("child", true, () -> x.isBelow(2, 1));
        checks.due("far below", true, () -> x.isBelow(3, 1));
        checks.due("by a clone", true, () -> x.isBelow(3, 4));
        checks.due("above", false, () -> x.isBelow(1, 3));
        checks.due("beside", false, () -> x.isBelow(2, 4));
        checks.due("not itself", false, () -> x.isBelow(1, 1));
        checks.due("below the root", true, () -> x.isBelow(3, 0));
        checks.due("the root is below none", false, () -> x.isBelow(0, 1));
        checks.due("nor below itself", false, () -> x.isBelow(0, 0));
        checks.due("no item", Checks.NO_SUCH, () -> x.isBelow(5, 0));
        checks.due("no other", Checks.NO_SUCH, () -> x.isBelow(0, 5));
        checks.due("no item", Checks.NO_SUCH, () -> x.isBelow(-1, -1));
    }

    private static void outline() {
        checks.about("promise 17");
        CloneOutliner x = Checks.outlineOf("a;.b;..c;d;.*1;e");
        checks.same("all", "6 5 7 7 0 0 0 5 0 1 3", Checks.outlineNumbers(x));
        x.hoist(4);
        x.hoist(2);
        x.detach(0, 2);
        Checks.filter(x, "~c&leaf");
        Checks.type(x, "xyz");
        checks.same("all", "5 5 6 1 2 2 2 1 3 2 3", Checks.outlineNumbers(x));
        checks.due("what", Checks.ARGUMENT, () -> x.outline(11));
        checks.due("what", Checks.ARGUMENT, () -> x.outline(-1));
        checks.due("what", Checks.ARGUMENT, () -> x.outline(Integer.MIN_VALUE));
    }

    private static void outlineSteps() {
        CloneOutliner x = Checks.outlineOf("c;a;.b");
        checks.due("two", 2, () -> x.outline(10));
        x.clone(1, 3, 0);
        checks.due("the longest way counts", 3, () -> x.outline(10));
        x.detach(3, 0);
        checks.due("the longest way that there is", 2, () -> x.outline(10));
        x.undo();
        x.setFlag(2, true, true);
        x.hoist(3);
        checks.due("of the whole outline", 3, () -> x.outline(10));
        checks.due("places of the whole outline", 4, () -> x.outline(2));
        checks.due("also when shown are", 1, () -> x.outline(3));
        Checks.filter(x, "~q");
        checks.due("no line", 0, () -> x.outline(3));
        checks.due("none fits", 0, () -> x.outline(7));
    }

    private static void doneShare() {
        checks.about("promise 18");
        CloneOutliner x = Checks.outlineOf("a=0x;.b=0x;.c;.d;e");
        checks.due("a third", 1.0f / 3.0f, () -> x.doneShare(1));
        checks.due("a quarter", 0.25f, () -> x.doneShare(0));
        checks.due("one", 1.0f, () -> x.doneShare(2));
        checks.due("none", 0.0f, () -> x.doneShare(3));
        checks.due("the root alone", 0.0f, () -> new CloneOutliner().doneShare(0));
        checks.due("no item", Checks.NO_SUCH, () -> x.doneShare(6));
        checks.due("no item", Checks.NO_SUCH, () -> x.doneShare(-1));
        x.clone(2, 5, 0);
        checks.due("once though at two places", 1.0f / 3.0f, () -> x.doneShare(0));
    }

    private static void meanValue() {
        checks.about("promise 19");
        CloneOutliner x = Checks.outlineOf("a=1;.b=2;..c=-5;.*2");
        checks.due("mean", -2.0 / 3.0, () -> x.meanValue(1));
        checks.due("with the root", -0.5, () -> x.meanValue(0));
        checks.due("alone", -5.0, () -> x.meanValue(3));
        checks.due("zero", 0.0, () -> new CloneOutliner().meanValue(0));
        checks.due("no item", Checks.NO_SUCH, () -> x.meanValue(4));
        checks.due("no item", Checks.NO_SUCH, () -> x.meanValue(Integer.MAX_VALUE));
    }
}
