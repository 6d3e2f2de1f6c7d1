/** Each exception that a promise lists, alone and together with those behind it, and the state afterwards. */
public final class ExceptionsTest {
    private static final Checks checks = new Checks();
    private static final int[] FAR = {Integer.MIN_VALUE, -64, -1, 7, 60, 61, 62, 63, 64, 65, 128, Integer.MAX_VALUE};

    public static void main(String[] args) {
        append();
        add();
        addMalformed();
        cloneItem();
        detach();
        moveBlock();
        indent();
        outdent();
        rename();
        setNumber();
        setFlag();
        item();
        relatedAndLetter();
        isBelowAndShares();
        outline();
        hoists();
        filter();
        line();
        path();
        load();
        errorPosition();
        refusal();
        undoAndRestore();
        checks.end("ExceptionsTest");
    }

    /** The call throws, and the object that is busy stays as it is, the three letters in its buffer included. */
    private static void leaves(String what, Class<?> due, Checks.Deed deed) {
        checks.leavesAll(what, due, () -> Checks.busy("abc"), deed);
    }

    private static void append() {
        checks.about("promise 3, exceptions");
        checks.same("what is there", "3 at 0, 20 3", Checks.textState(Checks.busy("abc")));
        for (int wrong : new int[] {1, 31, 127, 128, 255}) {
            for (int shift = 0; shift <= 24; shift += 8) {
                int packed = 0x41414141 & ~(255 << shift) | wrong << shift;
                leaves("byte " + wrong, Checks.ARGUMENT, x -> x.append(packed));
                int alone = wrong << shift;
                leaves("alone " + wrong, Checks.ARGUMENT, x -> x.append(alone));
            }
        }
        Checks.Builder full = () -> Checks.busy("a".repeat(78));
        checks.leavesAll("81 characters", Checks.STATE, full, x -> x.append(0x41414100));
        checks.leavesAll("82 characters", Checks.STATE, full, x -> x.append(0x41414141));
        checks.leavesAll("a wrong byte behind too many", Checks.ARGUMENT, full, x -> x.append(0x4141417f));
        checks.leavesAll("a wrong byte ahead of too many", Checks.ARGUMENT, full, x -> x.append(0x1f414141));
    }

    private static void add() {
        checks.about("promise 4, exceptions");
        for (int parent : FAR) {
            leaves("no parent", Checks.NO_SUCH, x -> x.add(parent, 0));
            leaves("no parent before no index", Checks.NO_SUCH, x -> x.add(parent, -1));
        }
        for (int index : Checks.noIndexes(5)) {
            leaves("no index", Checks.INDEX, x -> x.add(0, index));
        }
        checks.due("the least index", 7, () -> Checks.busy("abc").add(0, 0));
        checks.due("the greatest index", 7, () -> Checks.busy("abc").add(0, 4));
        checks.due("no child yet", 7, () -> Checks.busy("abc").add(5, 0));
        leaves("no child yet", Checks.INDEX, x -> x.add(5, 1));
        Checks.Builder malformed = () -> Checks.busy("ab.");
        checks.leavesAll("no parent before no name", Checks.NO_SUCH, malformed, x -> x.add(7, 0));
        checks.leavesAll("no index before no name", Checks.INDEX, malformed, x -> x.add(0, 5));
        CloneOutliner x = Checks.busy("abc");
        checks.due("no parent", Checks.NO_SUCH, () -> x.add(7, 0));
        checks.due("no index", Checks.INDEX, () -> x.add(0, 5));
        checks.due("what was in the buffer", 7, () -> x.add(0, 4));
        checks.same("is the name", "abc", Checks.name(x, 7));
    }

    private static void addMalformed() {
        checks.leavesState("no name", Checks.ARGUMENT, "0 at 2, 20 3", () -> Checks.busy("ab."), x -> x.add(0, 0));
        checks.leavesState("empty", Checks.ARGUMENT, "0 at 0, 20 3", () -> Checks.busy(""), x -> x.add(0, 0));
        checks.leavesState("no name before refused", Checks.ARGUMENT, "0 at 1, 20 3", () -> busyAndFull("a1"),
            x -> x.add(6, 0));
        checks.leavesState("refused", Checks.REFUSED, "0 at 0, 10 1", () -> busyAndFull("a"), x -> x.add(6, 0));
        checks.leavesAll("no index before refused", Checks.INDEX, () -> busyAndFull("a"), x -> x.add(6, 13));
    }

    /** 6 has 12 children. */
    private static CloneOutliner busyAndFull(String buffer) {
        CloneOutliner x = Checks.busy("");
        Checks.fill(x, 6, 12);
        Checks.type(x, buffer);
        return x;
    }

    private static void cloneItem() {
        checks.about("promise 5, exceptions");
        for (int item : FAR) {
            leaves("no item", Checks.NO_SUCH, x -> x.clone(item, 5, 0));
            leaves("no parent", Checks.NO_SUCH, x -> x.clone(1, item, 0));
            leaves("no item before no index", Checks.NO_SUCH, x -> x.clone(item, 5, 1));
            leaves("no parent before no index", Checks.NO_SUCH, x -> x.clone(1, item, -1));
        }
        leaves("the root", Checks.NO_SUCH, x -> x.clone(0, 5, 0));
        leaves("the root before no index", Checks.NO_SUCH, x -> x.clone(0, 5, 1));
        for (int index : Checks.noIndexes(2)) {
            leaves("no index", Checks.INDEX, x -> x.clone(5, 4, index));
        }
        for (int index : Checks.noIndexes(2)) {
            leaves("no index before refused", Checks.INDEX, x -> x.clone(2, 4, index));
        }
        checks.due("the greatest index", 2, () -> Checks.busy("").clone(5, 4, 1));
        checks.due("the least index", 2, () -> Checks.busy("").clone(5, 4, 0));
        checks.leavesState("refused", Checks.REFUSED, "3 at 0, 20 2", () -> Checks.busy("abc"), x -> x.clone(2, 4, 0));
    }

    private static void detach() {
        checks.about("promise 6, exceptions");
        for (int parent : FAR) {
            leaves("no parent", Checks.NO_SUCH, x -> x.detach(parent, 0));
            leaves("no parent before no child", Checks.NO_SUCH, x -> x.detach(parent, -1));
        }
        for (int index : Checks.noIndexes(4)) {
            leaves("no child", Checks.INDEX, x -> x.detach(0, index));
        }
        for (int index : Checks.noIndexes(0)) {
            leaves("no child at all", Checks.INDEX, x -> x.detach(5, index));
        }
        checks.due("the first child", 1, () -> Checks.busy("").detach(0, 0));
        checks.due("the last child", 1, () -> Checks.busy("").detach(0, 3));
    }

    private static void moveBlock() {
        checks.about("promise 7, exceptions");
        for (int item : FAR) {
            leaves("no parent", Checks.NO_SUCH, x -> x.moveBlock(item, 0, 0, 5, 0));
            leaves("no other item", Checks.NO_SUCH, x -> x.moveBlock(0, 0, 0, item, 0));
            leaves("no other item before no child", Checks.NO_SUCH, x -> x.moveBlock(0, 4, 4, item, 0));
            leaves("no parent before no index", Checks.NO_SUCH, x -> x.moveBlock(item, 0, 0, 5, -1));
        }
        for (int index : Checks.noIndexes(4)) {
            leaves("no first child", Checks.INDEX, x -> x.moveBlock(0, index, 3, 5, 0));
            leaves("no last child", Checks.INDEX, x -> x.moveBlock(0, 0, index, 5, 0));
            leaves("neither", Checks.INDEX, x -> x.moveBlock(0, index, index, 5, 0));
            leaves("no first child before refused", Checks.INDEX, x -> x.moveBlock(0, index, 3, 2, 0));
        }
        for (int index : Checks.noIndexes(0)) {
            leaves("no child at all", Checks.INDEX, x -> x.moveBlock(5, index, index, 0, 0));
        }
        for (int first = 1; first < 4; first++) {
            int from = first;
            leaves("the last before the first", Checks.INDEX, x -> x.moveBlock(0, from, from - 1, 2, 0));
        }
        for (int index : Checks.noIndexes(2)) {
            leaves("no index", Checks.INDEX, x -> x.moveBlock(0, 2, 2, 4, index));
            leaves("no index before refused", Checks.INDEX, x -> x.moveBlock(0, 1, 1, 4, index));
        }
        for (int index : Checks.noIndexes(3)) {
            leaves("no index when two of four are taken away", Checks.INDEX, x -> x.moveBlock(0, 1, 2, 0, index));
        }
        checks.due("the greatest index", 1, () -> Checks.busy("").moveBlock(0, 2, 2, 4, 1));
        checks.due("the greatest index when two are taken away", 2, () -> Checks.busy("").moveBlock(0, 1, 2, 0, 2));
        checks.due("all four", 4, () -> Checks.busy("").moveBlock(0, 0, 3, 0, 0));
        leaves("no index when all are taken away", Checks.INDEX, x -> x.moveBlock(0, 0, 3, 0, 1));
        checks.leavesState("refused", Checks.REFUSED, "3 at 0, 30 101 3", () -> Checks.busy("abc"),
            x -> x.moveBlock(0, 0, 1, 4, 0));
    }

    private static void indent() {
        checks.about("promise 8, exceptions");
        for (int line : Checks.noIndexes(2)) {
            leaves("no line", Checks.NO_SUCH, x -> x.indent(line));
        }
        leaves("no child before it", Checks.STATE, x -> x.indent(0));
        leaves("nor before the last line", Checks.STATE, x -> x.indent(1));
        leaves("nor ahead of all", Checks.STATE, x -> {
            x.hoist(0);
            try {
                return x.indent(0);
            } finally {
                x.unhoist();
            }
        });
        checks.due("the least line", Checks.STATE, () -> Checks.outlineOf("a").indent(0));
        checks.due("the greatest line", 1, () -> Checks.outlineOf("a;b").indent(1));
    }

    private static void outdent() {
        checks.about("promise 9, exceptions");
        for (int line : Checks.noIndexes(2)) {
            leaves("no line", Checks.NO_SUCH, x -> x.outdent(line));
        }
        leaves("its depth is 0", Checks.STATE, x -> x.outdent(0));
        checks.due("its depth is 1", 4, () -> Checks.busy("").outdent(1));
        CloneOutliner x = Checks.outlineOf("a;.b;b");
        x.hoist(1);
        checks.due("depth 0, also where it could be moved", Checks.STATE, () -> x.outdent(0));
        x.unhoist();
        checks.due("depth 1", 0, () -> x.outdent(1));
    }

    private static void rename() {
        checks.about("promise 10, exceptions");
        for (int item : FAR) {
            leaves("no item", Checks.NO_SUCH, x -> x.rename(item));
            checks.leavesAll("no item before no name", Checks.NO_SUCH, () -> Checks.busy("?"), x -> x.rename(item));
        }
        leaves("the root", Checks.NO_SUCH, x -> x.rename(0));
        checks.leavesAll("the root before no name", Checks.NO_SUCH, () -> Checks.busy(""), x -> x.rename(0));
        checks.leavesState("no name", Checks.ARGUMENT, "0 at 3, 20 3", () -> Checks.busy("abc "), x -> x.rename(1));
        checks.leavesState("empty", Checks.ARGUMENT, "0 at 0, 20 3", () -> Checks.busy(""), x -> x.rename(6));
        CloneOutliner x = Checks.busy("abc");
        checks.due("the root", Checks.NO_SUCH, () -> x.rename(0));
        checks.due("what was in the buffer", 1, () -> x.rename(6));
        checks.same("is the name", "abc", Checks.name(x, 6));
    }

    private static void setNumber() {
        checks.about("promise 11, exceptions");
        for (int item : FAR) {
            leaves("no item", Checks.NO_SUCH, x -> x.setNumber(item, true, 5));
            leaves("no item before out of range", Checks.NO_SUCH, x -> x.setNumber(item, false, 1000));
            leaves("no item before out of range", Checks.NO_SUCH, x -> x.setNumber(item, true, -2));
        }
        for (int number : new int[] {Integer.MIN_VALUE, -1000, 1000, 9999, 10000, Integer.MAX_VALUE}) {
            leaves("value " + number, Checks.ARGUMENT, x -> x.setNumber(1, false, number));
        }
        for (int number : new int[] {Integer.MIN_VALUE, -999, -2, 10000, Integer.MAX_VALUE}) {
            leaves("day " + number, Checks.ARGUMENT, x -> x.setNumber(1, true, number));
        }
    }

    private static void setFlag() {
        checks.about("promise 12, exceptions");
        for (int item : FAR) {
            leaves("no item", Checks.NO_SUCH, x -> x.setFlag(item, true, true));
            leaves("no item", Checks.NO_SUCH, x -> x.setFlag(item, false, false));
        }
    }

    private static void item() {
        checks.about("promise 13, exceptions");
        for (int item : FAR) {
            leaves("no item", Checks.NO_SUCH, x -> x.item(item, 0));
            leaves("no item before what", Checks.NO_SUCH, x -> x.item(item, 15));
        }
        for (int what : Checks.noIndexes(15)) {
            leaves("what", Checks.ARGUMENT, x -> x.item(0, what));
            leaves("what", Checks.ARGUMENT, x -> x.item(6, what));
        }
        checks.due("the least what", 0, () -> Checks.busy("").item(0, 0));
        checks.due("the greatest what", 8, () -> Checks.busy("").item(0, 14));
    }

    private static void relatedAndLetter() {
        checks.about("promises 14 and 15, exceptions");
        for (int item : FAR) {
            leaves("no item", Checks.NO_SUCH, x -> x.related(item, 0, true));
            leaves("no item before no index", Checks.NO_SUCH, x -> x.related(item, -1, false));
            leaves("no item", Checks.NO_SUCH, x -> x.letter(item, 0));
            leaves("no item before no index", Checks.NO_SUCH, x -> x.letter(item, -1));
        }
        for (int index : Checks.noIndexes(4)) {
            leaves("no child", Checks.INDEX, x -> x.related(0, index, false));
        }
        for (int index : Checks.noIndexes(2)) {
            leaves("no parent", Checks.INDEX, x -> x.related(2, index, true));
        }
        for (int index : Checks.noIndexes(0)) {
            leaves("no parent of the root", Checks.INDEX, x -> x.related(0, index, true));
            leaves("no child of a leaf", Checks.INDEX, x -> x.related(6, index, false));
            leaves("the root has no name", Checks.NO_SUCH, x -> x.letter(0, index));
        }
        for (int index : Checks.noIndexes(1)) {
            leaves("no letter", Checks.INDEX, x -> x.letter(1, index));
        }
        leaves("the root has no name", Checks.NO_SUCH, x -> x.letter(0, 0));
        CloneOutliner x = Checks.outlineOf("abcdefghij");
        checks.due("the greatest index of a letter", 'j', () -> x.letter(1, 9));
        for (int index : Checks.noIndexes(10)) {
            checks.due("no letter", Checks.INDEX, () -> x.letter(1, index));
        }
    }

    private static void isBelowAndShares() {
        checks.about("promises 16, 18 and 19, exceptions");
        for (int item : FAR) {
            leaves("no item", Checks.NO_SUCH, x -> x.isBelow(item, 0));
            leaves("no other item", Checks.NO_SUCH, x -> x.isBelow(1, item));
            leaves("neither", Checks.NO_SUCH, x -> x.isBelow(item, item));
            leaves("no item", Checks.NO_SUCH, x -> x.doneShare(item));
            leaves("no item", Checks.NO_SUCH, x -> x.meanValue(item));
        }
    }

    private static void outline() {
        checks.about("promise 17, exceptions");
        for (int what : Checks.noIndexes(11)) {
            leaves("what", Checks.ARGUMENT, x -> x.outline(what));
        }
        checks.due("the least what", 7, () -> Checks.busy("").outline(0));
        checks.due("the greatest what", 3, () -> Checks.busy("").outline(10));
    }

    private static void hoists() {
        checks.about("promises 20 and 21, exceptions");
        Checks.Builder four = () -> {
            CloneOutliner x = Checks.busy("abc");
            x.hoist(0);
            x.hoist(0);
            x.hoist(2);
            return x;
        };
        for (int item : FAR) {
            leaves("no item", Checks.NO_SUCH, x -> x.hoist(item));
            checks.leavesAll("no item before four hoists", Checks.NO_SUCH, four, x -> x.hoist(item));
        }
        checks.leavesAll("four hoists", Checks.STATE, four, x -> x.hoist(0));
        checks.leavesAll("four hoists, the same again", Checks.STATE, four, x -> x.hoist(2));
        checks.due("four", 4, () -> four.build().outline(5));
        checks.due("the fourth", 4, () -> {
            CloneOutliner x = four.build();
            x.unhoist();
            return x.hoist(6);
        });
        checks.leavesAll("no hoists", Checks.STATE, () -> Checks.outlineOf("a"), x -> x.unhoist());
        checks.leavesAll("no hoists any more", Checks.STATE, () -> {
            CloneOutliner x = Checks.busy("abc");
            x.unhoist();
            return x;
        }, x -> x.unhoist());
    }

    private static void filter() {
        checks.about("promise 22, exceptions");
        String[] texts = {"done?", "leaf&many&done&", "!", ">", "~", "many&leaf&dated&done&!done&leaf"};
        int[] positions = {4, 15, 1, 1, 1, 26};
        for (int number = 0; number < texts.length; number++) {
            String text = texts[number];
            int at = positions[number];
            checks.leavesState(text, Checks.ARGUMENT, "0 at " + at + ", 20 3", () -> Checks.busy(text),
                x -> x.filter());
        }
        checks.leavesState("without a filter", Checks.ARGUMENT, "0 at 1, no refusal", () -> {
            CloneOutliner x = Checks.outlineOf("a;.b");
            Checks.type(x, "d?");
            return x;
        }, x -> x.filter());
    }

    private static void line() {
        checks.about("promise 23, exceptions");
        for (int line : Checks.noIndexes(2)) {
            leaves("no line", Checks.NO_SUCH, x -> x.line(line, 0));
            leaves("no line before what", Checks.NO_SUCH, x -> x.line(line, 6));
        }
        for (int what : Checks.noIndexes(6)) {
            leaves("what", Checks.ARGUMENT, x -> x.line(0, what));
            leaves("what", Checks.ARGUMENT, x -> x.line(1, what));
        }
        checks.due("the least what", 2, () -> Checks.busy("").line(0, 0));
        checks.due("the greatest what", 1, () -> Checks.busy("").line(1, 5));
    }

    private static void path() {
        checks.about("promise 24, exceptions");
        for (int line : Checks.noIndexes(2)) {
            leaves("no line", Checks.NO_SUCH, x -> x.path(line, 0));
            leaves("no line before no index", Checks.NO_SUCH, x -> x.path(line, -1));
        }
        for (int index : Checks.noIndexes(1)) {
            leaves("no index", Checks.INDEX, x -> x.path(0, index));
        }
        for (int index : Checks.noIndexes(3)) {
            leaves("no index", Checks.INDEX, x -> x.path(1, index));
        }
        checks.due("the greatest index", 'c', () -> Checks.busy("").path(1, 2));
    }

    private static void load() {
        checks.about("promise 26, exceptions");
        for (int item : FAR) {
            leaves("no item", Checks.NO_SUCH, x -> x.load(item));
            checks.leavesAll("no item before malformed", Checks.NO_SUCH, () -> Checks.busy("a;"), x -> x.load(item));
        }
        checks.leavesState("malformed", Checks.ARGUMENT, "0 at 2, 20 3", () -> Checks.busy("a;"), x -> x.load(0));
        checks.leavesState("empty", Checks.ARGUMENT, "0 at 0, 20 3", () -> Checks.busy(""), x -> x.load(0));
        checks.leavesState("malformed before refused", Checks.ARGUMENT, "0 at 5, 20 3", () -> Checks.busy("a;.*0?"),
            x -> x.load(0));
        checks.leavesState("refused", Checks.REFUSED, "0 at 0, 60 101 3", () -> Checks.busy("a;.*0"), x -> x.load(0));
        checks.leavesState("refused late", Checks.REFUSED, "0 at 0, 60 104 2", () -> Checks.busy("a;.b@1=2x;c;.*1;.*1"),
            x -> x.load(5));
        checks.leavesState("malformed and full", Checks.ARGUMENT, "0 at 1, 20 3", () -> busyAndFull("a."),
            x -> x.load(6));
        CloneOutliner x = Checks.busy("abc");
        checks.due("no item", Checks.NO_SUCH, () -> x.load(7));
        checks.due("what was in the buffer", 1, () -> x.load(6));
        checks.same("is loaded", "abc", Checks.name(x, 7));
    }

    private static void errorPosition() {
        checks.about("promise 27, exceptions");
        checks.leavesAll("no error", Checks.STATE, () -> {
            CloneOutliner x = Checks.outlineOf("a");
            Checks.filter(x, "leaf");
            return x;
        }, x -> x.errorPosition());
        CloneOutliner x = new CloneOutliner();
        Checks.type(x, "?");
        checks.due("not read", Checks.NO_SUCH, () -> x.add(1, 0));
        checks.due("not read", Checks.NO_SUCH, () -> x.load(1));
        checks.due("not read", Checks.NO_SUCH, () -> x.rename(0));
        checks.due("no error yet", Checks.STATE, x::errorPosition);
    }

    private static void refusal() {
        checks.about("promise 28, exceptions");
        for (int index : Checks.noIndexes(2)) {
            checks.leavesAll("nothing refused before no index", Checks.STATE, () -> Checks.outlineOf("a"),
                x -> x.refusal(index));
            leaves("no index", Checks.INDEX, x -> x.refusal(index));
        }
        checks.leavesAll("nothing refused", Checks.STATE, () -> Checks.outlineOf("a"), x -> x.refusal(0));
    }

    private static void undoAndRestore() {
        checks.about("promises 30 and 32, exceptions");
        Checks.Builder old = () -> {
            CloneOutliner x = Checks.busy("abc");
            while (x.outline(9) > 0) {
                x.undo();
            }
            return x;
        };
        checks.leavesAll("nothing to undo", Checks.STATE, old, x -> x.undo());
        checks.leavesAll("nothing to undo", Checks.STATE, () -> new CloneOutliner(), x -> x.undo());
        checks.leavesAll("no snapshot", Checks.STATE, () -> Checks.outlineOf("a;.b"), x -> x.restore());
        checks.leavesAll("no snapshot", Checks.STATE, () -> new CloneOutliner(), x -> x.restore());
    }
}
