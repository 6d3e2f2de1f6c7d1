/** The promises 1 to 12: a new object, and the calls that change items. */
public final class ItemsTest {
    private static final Checks checks = new Checks();

    public static void main(String[] args) {
        newObject();
        clear();
        append();
        add();
        addRefused();
        cloneItem();
        cloneRefused();
        detach();
        detachEdges();
        moveBlock();
        moveBlockWrong();
        moveBlockRefused();
        moveBlockPlaces();
        indent();
        indentRefused();
        indentAsShown();
        outdent();
        outdentRefused();
        rename();
        setNumber();
        setFlag();
        checks.end("ItemsTest");
    }

    private static void newObject() {
        checks.about("promise 1");
        CloneOutliner x = new CloneOutliner();
        checks.same("outline", "1 0 0 0 0 0 0 0 0 0 0", Checks.outlineNumbers(x));
        checks.same("root", "0 0 1 0 0 -1 0 0 1 0 -1 -1 1 0 0", Checks.itemNumbers(x, 0));
        checks.due("no error", Checks.STATE, x::errorPosition);
        checks.due("no refusal", Checks.STATE, () -> x.refusal(0));
        checks.due("no undo", Checks.STATE, x::undo);
        checks.due("no snapshot", Checks.STATE, x::restore);
        checks.due("no hoist", Checks.STATE, x::unhoist);
        checks.due("no line", -1, () -> x.lineOf(0));
        checks.due("consistent", true, x::isConsistent);
        Checks.outlineOf("a;.b");
        checks.same("objects are apart", "1 0 0 0 0 0 0 0 0 0 0", Checks.outlineNumbers(x));
    }

    private static void clear() {
        checks.about("promise 2");
        CloneOutliner x = Checks.outlineOf("a=3;.b@4x;..c;*1");
        Checks.type(x, "?");
        checks.due("malformed", Checks.ARGUMENT, x::filter);
        checks.due("refused", Checks.REFUSED, () -> x.clone(1, 2, 0));
        x.setNumber(0, false, 7);
        x.setNumber(0, true, 8);
        x.setFlag(0, true, true);
        x.setFlag(0, false, true);
        x.hoist(1);
        Checks.filter(x, "~a");
        x.snapshot();
        Checks.type(x, "abc");
        checks.due("items that were", 4, x::clear);
        checks.same("as new but the buffer", "1 0 0 0 0 0 0 0 3 0 0", Checks.outlineNumbers(x));
        checks.same("root as new", "0 0 1 0 0 -1 0 0 1 0 -1 -1 1 0 0", Checks.itemNumbers(x, 0));
        checks.due("error stays", 0, x::errorPosition);
        checks.due("refusal stays", 20, () -> x.refusal(0));
        checks.due("nothing to undo", Checks.STATE, x::undo);
        checks.due("buffer stays, numbers start again", 1, () -> x.add(0, 0));
        checks.same("fresh item", "1 0 1 3 0 -1 0 0 1 0 -1 -1 1 0 0", Checks.itemNumbers(x, 1));
        checks.due("snapshot stays", 4, x::restore);
        checks.same("as it was", "2 1 2 1 0 4 1 0 2 0 4 4 1 0 1", Checks.itemNumbers(x, 2));
        checks.due("again", 4, x::clear);
        x.hoist(0);
        checks.due("root alone", 1, x::clear);
        checks.due("also a hoisted root is none", Checks.STATE, x::unhoist);
    }

    private static void append() {
        checks.about("promise 3");
        CloneOutliner x = new CloneOutliner();
        checks.due("nothing", 0, () -> x.append(0));
        checks.due("most significant first", 4, () -> x.append('a' << 24 | 'b' << 16 | 'c' << 8 | 'd'));
        checks.due("zeros skipped", 6, () -> x.append('e' << 24 | 'f'));
        checks.due("add", 1, () -> x.add(0, 0));
        checks.same("order", "abcdef", Checks.name(x, 1));
        for (int wrong : new int[] {31, 127, 128, 255, 1, -1, 'a' << 24 | 31, 200 << 24 | 'a', 'a' << 16 | 127 << 8}) {
            checks.due("wrong byte in " + wrong, Checks.ARGUMENT, () -> x.append(wrong));
        }
        checks.due("unchanged", 0, () -> x.outline(8));
        checks.due("32 and 126", 2, () -> x.append(32 << 8 | 126));
        for (int count = 6; count <= 78; count += 4) {
            x.append(0x41424344);
        }
        checks.due("three too many", Checks.STATE, () -> x.append(0x00414243));
        checks.due("a wrong byte comes first", Checks.ARGUMENT, () -> x.append(0x4142431f));
        checks.due("still 78", 78, () -> x.append(0));
        checks.due("80 fit", 80, () -> x.append(0x41000041));
        checks.due("81 do not", Checks.STATE, () -> x.append(65));
        checks.due("0 does", 80, () -> x.append(0));
    }

    private static void add() {
        checks.about("promise 4");
        CloneOutliner x = Checks.outlineOf("a;b");
        Checks.type(x, "abcdefghij");
        checks.due("no parent", Checks.NO_SUCH, () -> x.add(3, 9));
        checks.due("no parent", Checks.NO_SUCH, () -> x.add(-1, 0));
        checks.due("no parent", Checks.NO_SUCH, () -> x.add(61, 0));
        checks.due("no parent", Checks.NO_SUCH, () -> x.add(64, 0));
        checks.due("no parent", Checks.NO_SUCH, () -> x.add(Integer.MAX_VALUE, 0));
        checks.due("index", Checks.INDEX, () -> x.add(0, 3));
        checks.due("index", Checks.INDEX, () -> x.add(0, -1));
        checks.due("buffer stays", 10, () -> x.outline(8));
        checks.due("in between", 3, () -> x.add(0, 1));
        checks.due("buffer empty", 0, () -> x.outline(8));
        checks.same("order", "a abcdefghij b", Checks.paths(x));
        checks.same("item", "1 0 1 10 0 -1 0 0 1 0 -1 -1 1 0 0", Checks.itemNumbers(x, 3));
        String before = Checks.all(x);
        checks.due("empty name", Checks.ARGUMENT, () -> x.add(0, 0));
        Checks.type(x, "abcdefghijk");
        checks.due("long name", Checks.ARGUMENT, () -> x.add(0, 0));
        checks.due("buffer empty after a wrong name", 0, () -> x.outline(8));
        checks.due("position", 10, x::errorPosition);
        checks.same("unchanged", before, Checks.all(x));
        Checks.type(x, "Ab");
        checks.due("wrong index before wrong name", Checks.INDEX, () -> x.add(0, 4));
        checks.due("wrong parent before all", Checks.NO_SUCH, () -> x.add(4, 4));
        checks.due("position unchanged", 10, x::errorPosition);
        checks.due("wrong name", Checks.ARGUMENT, () -> x.add(0, 3));
        checks.due("position", 0, x::errorPosition);
        Checks.type(x, "e");
        x.detach(0, 2);
        checks.due("numbers are not used again", 4, () -> x.add(1, 0));
        checks.same("below", "a a/e abcdefghij", Checks.paths(x));
    }

    private static void addRefused() {
        CloneOutliner x = new CloneOutliner();
        Checks.fill(x, 0, 12);
        String before = Checks.all(x);
        Checks.type(x, "n");
        checks.due("12 children", Checks.REFUSED, () -> x.add(0, 12));
        checks.due("buffer empty", 0, () -> x.outline(8));
        checks.same("chain", "10 1", Checks.chain(x));
        checks.same("unchanged", before, Checks.all(x));
        Checks.type(x, "n1");
        checks.due("name before refusal", Checks.ARGUMENT, () -> x.add(0, 0));
        for (int parent = 1; parent <= 4; parent++) {
            Checks.fill(x, parent, 12);
        }
        checks.due("60 added", 60, () -> x.outline(1));
        x.detach(0, 11);
        Checks.type(x, "n");
        checks.due("60 added already", Checks.REFUSED, () -> x.add(0, 0));
        checks.same("chain", "10 1", Checks.chain(x));
        CloneOutliner y = Checks.withPlaces(300);
        checks.due("300", 300, () -> y.outline(2));
        Checks.type(y, "n");
        checks.due("301 places", Checks.REFUSED, () -> y.add(0, 0));
        checks.same("chain", "10 4", Checks.chain(y));
        checks.due("still 300", 300, () -> y.outline(2));
        CloneOutliner z = Checks.withPlaces(299);
        int next = z.outline(1) + 1;
        checks.due("300 places", next, () -> Checks.add(z, 0, 0, "n"));
        checks.due("300", 300, () -> z.outline(2));
        CloneOutliner w = Checks.withPlaces(299);
        checks.due("two more places", Checks.REFUSED, () -> Checks.add(w, 2, 0, "n"));
        checks.same("chain", "10 4", Checks.chain(w));
    }

    private static void cloneItem() {
        checks.about("promise 5");
        CloneOutliner x = Checks.outlineOf("a;.b;..c;d;e");
        checks.due("two places", 2, () -> x.clone(2, 4, 0));
        checks.same("lines", "a a/b a/b/c d d/b d/b/c e", Checks.paths(x));
        checks.due("c too", 2, () -> x.item(3, 2));
        checks.due("three", 3, () -> x.clone(3, 0, 1));
        checks.same("lines", "a a/b a/b/c c d d/b d/b/c e", Checks.paths(x));
        checks.due("at a third one", 3, () -> x.clone(2, 5, 0));
        checks.due("c", 4, () -> x.item(3, 2));
        checks.due("with all below", 2, () -> x.clone(5, 4, 1));
        checks.due("b then", 4, () -> x.item(2, 2));
        x.setNumber(2, false, 5);
        checks.same("clones agree", "5 5 5 5",
            x.item(1, 9) + " " + x.item(5, 9) + " " + x.item(4, 9) + " " + x.item(0, 9));
        String before = Checks.all(x);
        checks.due("no root", Checks.NO_SUCH, () -> x.clone(0, 1, 0));
        checks.due("no item", Checks.NO_SUCH, () -> x.clone(6, 1, 9));
        checks.due("no parent", Checks.NO_SUCH, () -> x.clone(1, 6, 9));
        checks.due("no parent", Checks.NO_SUCH, () -> x.clone(1, -1, 0));
        checks.due("no item", Checks.NO_SUCH, () -> x.clone(Integer.MIN_VALUE, 0, 0));
        checks.due("index", Checks.INDEX, () -> x.clone(1, 5, 2));
        checks.due("index", Checks.INDEX, () -> x.clone(1, 5, -1));
        checks.due("index before refusal", Checks.INDEX, () -> x.clone(1, 1, 2));
        checks.due("nothing refused", Checks.STATE, () -> x.refusal(0));
        checks.same("unchanged", before, Checks.all(x));
    }

    private static void cloneRefused() {
        CloneOutliner x = Checks.outlineOf("a;.b;..c;d");
        String before = Checks.all(x);
        checks.due("child already", Checks.REFUSED, () -> x.clone(2, 1, 1));
        checks.same("chain", "20 2", Checks.chain(x));
        checks.due("itself", Checks.REFUSED, () -> x.clone(1, 1, 0));
        checks.same("chain", "20 3", Checks.chain(x));
        checks.due("below it", Checks.REFUSED, () -> x.clone(1, 3, 0));
        checks.same("chain", "20 3", Checks.chain(x));
        checks.same("unchanged", before, Checks.all(x));
        Checks.fill(x, 3, 12);
        checks.due("full counts before below", Checks.REFUSED, () -> x.clone(1, 3, 0));
        checks.same("chain", "20 1", Checks.chain(x));
        checks.due("full counts before child", Checks.REFUSED, () -> x.clone(x.related(3, 0, false), 3, 0));
        checks.same("chain", "20 1", Checks.chain(x));
        CloneOutliner y = Checks.withPlaces(300);
        int leaf = y.related(0, 7, false);
        checks.due("301 places", Checks.REFUSED, () -> y.clone(leaf, 1, 0));
        checks.same("chain", "20 4", Checks.chain(y));
        checks.due("a child counts before places", Checks.REFUSED, () -> y.clone(leaf, 0, 0));
        checks.same("chain", "20 2", Checks.chain(y));
        checks.due("below counts before places", Checks.REFUSED, () -> y.clone(3, 8, 0));
        checks.same("a full one counts before below", "20 1", Checks.chain(y));
        checks.due("below counts before places", Checks.REFUSED, () -> y.clone(3, 7, 0));
        checks.same("chain", "20 3", Checks.chain(y));
        checks.due("with what is below it", Checks.REFUSED, () -> y.clone(7, 1, 0));
        y.detach(0, 6);
        checks.due("299", 299, () -> y.outline(2));
        checks.due("with what is below it", Checks.REFUSED, () -> y.clone(7, 1, 0));
        checks.same("chain", "20 4", Checks.chain(y));
        checks.due("300 places", 2, () -> y.clone(leaf, 1, 0));
    }

    private static void detach() {
        checks.about("promise 6");
        CloneOutliner x = Checks.outlineOf("a;.b;..c;..d;e;.*1");
        checks.same("lines", "a a/b a/b/c a/b/d e e/b e/b/c e/b/d", Checks.paths(x));
        checks.due("a clone goes", 0, () -> x.detach(5, 0));
        checks.due("the last place goes, with all below", 3, () -> x.detach(1, 0));
        checks.same("lines", "a e", Checks.paths(x));
        checks.due("c is no more", Checks.NO_SUCH, () -> x.item(3, 0));
        checks.due("added stays", 5, () -> x.outline(1));
        x.undo();
        x.undo();
        checks.due("a goes alone", 1, () -> x.detach(0, 0));
        checks.due("b has one parent", 1, () -> x.item(2, 0));
        checks.same("lines", "e e/b e/b/c e/b/d", Checks.paths(x));
        checks.due("the first of two", 1, () -> x.detach(2, 0));
        checks.same("lines", "e e/b e/b/d", Checks.paths(x));
    }

    private static void detachEdges() {
        CloneOutliner x = Checks.outlineOf("a;.b");
        String before = Checks.all(x);
        checks.due("no parent", Checks.NO_SUCH, () -> x.detach(3, 0));
        checks.due("no parent", Checks.NO_SUCH, () -> x.detach(-1, -1));
        checks.due("no child", Checks.INDEX, () -> x.detach(1, 1));
        checks.due("no child", Checks.INDEX, () -> x.detach(1, -1));
        checks.due("no child", Checks.INDEX, () -> x.detach(2, 0));
        checks.same("unchanged", before, Checks.all(x));
        checks.due("all", 2, () -> x.detach(0, 0));
        checks.same("root alone", "1 2 0 0 0 0 0 0 0 2 0", Checks.outlineNumbers(x));
        CloneOutliner y = Checks.outlineOf("a;.b;..c;d");
        y.clone(3, 4, 0);
        checks.due("what is below elsewhere stays", 2, () -> y.detach(0, 0));
        checks.same("lines", "d d/c", Checks.paths(y));
        checks.same("a removed parent is none", "4", Checks.related(y, 3, true));
    }

    private static void moveBlock() {
        checks.about("promise 7");
        CloneOutliner x = Checks.outlineOf("a;b;c;d;e;.f;.g");
        checks.due("two", 2, () -> x.moveBlock(0, 1, 2, 5, 1));
        checks.same("lines", "a d e e/f e/b e/c e/g", Checks.paths(x));
        checks.due("within the same, forward", 2, () -> x.moveBlock(5, 0, 1, 5, 2));
        checks.same("lines", "a d e e/c e/g e/f e/b", Checks.paths(x));
        checks.due("within the same, backward", 1, () -> x.moveBlock(5, 3, 3, 5, 0));
        checks.same("lines", "a d e e/b e/c e/g e/f", Checks.paths(x));
        checks.due("all of them, to where they are", 4, () -> x.moveBlock(5, 0, 3, 5, 0));
        checks.same("lines", "a d e e/b e/c e/g e/f", Checks.paths(x));
        checks.due("upward", 4, () -> x.moveBlock(5, 0, 3, 0, 0));
        checks.same("lines", "b c g f a d e", Checks.paths(x));
        checks.due("six changes", 6, () -> x.outline(9));
    }

    private static void moveBlockWrong() {
        CloneOutliner x = Checks.outlineOf("a;b;c;.d");
        String before = Checks.all(x);
        checks.due("no parent", Checks.NO_SUCH, () -> x.moveBlock(5, 0, 0, 0, 0));
        checks.due("no other", Checks.NO_SUCH, () -> x.moveBlock(0, 5, 0, 5, 0));
        checks.due("no other", Checks.NO_SUCH, () -> x.moveBlock(0, 0, 0, -1, 0));
        checks.due("first", Checks.INDEX, () -> x.moveBlock(0, -1, 0, 3, 0));
        checks.due("last", Checks.INDEX, () -> x.moveBlock(0, 0, 3, 3, 0));
        checks.due("last before first", Checks.INDEX, () -> x.moveBlock(0, 1, 0, 3, 0));
        checks.due("index", Checks.INDEX, () -> x.moveBlock(0, 0, 0, 3, 2));
        checks.due("index", Checks.INDEX, () -> x.moveBlock(0, 0, 0, 3, -1));
        checks.due("index when taken away", Checks.INDEX, () -> x.moveBlock(0, 0, 1, 0, 2));
        checks.due("great numbers", Checks.INDEX, () -> x.moveBlock(0, Integer.MIN_VALUE, Integer.MAX_VALUE, 0, 0));
        checks.due("index before refusal", Checks.INDEX, () -> x.moveBlock(0, 2, 2, 3, 2));
        checks.same("unchanged", before, Checks.all(x));
        checks.due("nothing refused", Checks.STATE, () -> x.refusal(0));
        checks.due("index when taken away", 2, () -> x.moveBlock(0, 0, 1, 0, 1));
        checks.same("lines", "c c/d a b", Checks.paths(x));
    }

    private static void moveBlockRefused() {
        CloneOutliner x = Checks.outlineOf("a;b;c;.d;e;.*1");
        String before = Checks.all(x);
        checks.due("b is a child of e", Checks.REFUSED, () -> x.moveBlock(0, 0, 1, 5, 0));
        checks.same("chain", "30 101 2", Checks.chain(x));
        checks.due("into itself", Checks.REFUSED, () -> x.moveBlock(0, 0, 2, 3, 0));
        checks.same("chain", "30 102 3", Checks.chain(x));
        checks.due("below itself", Checks.REFUSED, () -> x.moveBlock(0, 1, 3, 4, 0));
        checks.same("chain", "30 101 3", Checks.chain(x));
        checks.same("unchanged", before, Checks.all(x));
        checks.due("nothing is removed on the way", 1, () -> x.moveBlock(0, 2, 2, 2, 0));
        checks.same("lines", "a b b/c b/c/d e e/b e/b/c e/b/c/d", Checks.paths(x));
        Checks.fill(x, 1, 11);
        checks.due("only one fits", Checks.REFUSED, () -> x.moveBlock(0, 1, 2, 1, 11));
        checks.same("chain", "30 101 1", Checks.chain(x));
        checks.due("one fits", 1, () -> x.moveBlock(0, 1, 1, 1, 11));
        checks.due("a full one in itself", 12, () -> x.moveBlock(1, 0, 11, 1, 0));
    }

    private static void moveBlockPlaces() {
        CloneOutliner x = Checks.withPlaces(300);
        checks.due("299 when taken away, 301 then", Checks.REFUSED, () -> x.moveBlock(0, 7, 7, 2, 0));
        checks.same("chain", "30 100 4", Checks.chain(x));
        checks.due("to one with one place", 1, () -> x.moveBlock(0, 7, 7, 1, 0));
        checks.due("300", 300, () -> x.outline(2));
        CloneOutliner y = Checks.withPlaces(299);
        checks.due("the second one is too much", Checks.REFUSED, () -> y.moveBlock(0, 5, 6, 2, 0));
        checks.same("chain", "30 101 4", Checks.chain(y));
        checks.due("299 still", 299, () -> y.outline(2));
    }

    private static void indent() {
        checks.about("promise 8");
        CloneOutliner x = Checks.outlineOf("a;.b;c;d;.e");
        checks.due("c under a", 1, () -> x.indent(2));
        checks.same("lines", "a a/b a/c d d/e", Checks.paths(x));
        checks.due("c under b", 2, () -> x.indent(2));
        checks.same("lines", "a a/b a/b/c d d/e", Checks.paths(x));
        checks.due("d with all below", 1, () -> x.indent(3));
        checks.same("lines", "a a/b a/b/c a/d a/d/e", Checks.paths(x));
        String before = Checks.all(x);
        checks.due("first child", Checks.STATE, () -> x.indent(0));
        checks.due("first child", Checks.STATE, () -> x.indent(2));
        checks.due("no line", Checks.NO_SUCH, () -> x.indent(5));
        checks.due("no line", Checks.NO_SUCH, () -> x.indent(-1));
        checks.due("no line", Checks.NO_SUCH, () -> x.indent(Integer.MAX_VALUE));
        checks.due("no line", Checks.NO_SUCH, () -> x.indent(Integer.MIN_VALUE));
        checks.same("unchanged", before, Checks.all(x));
        checks.due("no line without items", Checks.NO_SUCH, () -> new CloneOutliner().indent(0));
    }

    private static void indentRefused() {
        CloneOutliner x = Checks.outlineOf("a;.b;*1;c");
        String before = Checks.all(x);
        checks.due("b is a child of a", Checks.REFUSED, () -> x.indent(2));
        checks.same("chain", "40 2", Checks.chain(x));
        x.moveBlock(0, 1, 1, 0, 0);
        checks.same("lines", "b a a/b c", Checks.paths(x));
        checks.due("b is below a", Checks.REFUSED, () -> x.indent(1));
        checks.same("chain", "40 3", Checks.chain(x));
        x.undo();
        checks.same("unchanged", before, Checks.all(x));
        Checks.fill(x, 2, 12);
        checks.due("b is full", Checks.REFUSED, () -> x.indent(x.lineOf(3)));
        checks.same("chain", "40 1", Checks.chain(x));
        CloneOutliner y = Checks.withPlaces(300);
        int leaf = y.related(0, 5, false);
        checks.due("too many places", Checks.REFUSED, () -> y.indent(y.lineOf(leaf)));
        checks.same("chain", "40 4", Checks.chain(y));
    }

    private static void indentAsShown() {
        CloneOutliner x = Checks.outlineOf("a;b;c");
        Checks.filter(x, "~c");
        checks.due("the child before it need not be shown", 2, () -> x.indent(0));
        checks.same("lines", "b b/c", Checks.paths(x));
        x.hoist(2);
        checks.due("first below the hoisted item", Checks.STATE, () -> x.indent(0));
        CloneOutliner y = Checks.outlineOf("a;.b;.c;d;.*1");
        y.hoist(1);
        checks.due("below the hoisted item", 2, () -> y.indent(1));
        checks.same("lines", "b b/c", Checks.paths(y));
        checks.due("at all places", 2, () -> y.item(3, 2));
    }

    private static void outdent() {
        checks.about("promise 9");
        CloneOutliner x = Checks.outlineOf("a;.b;..c;..d;.e;f");
        checks.due("c behind b", 1, () -> x.outdent(2));
        checks.same("lines", "a a/b a/b/d a/c a/e f", Checks.paths(x));
        checks.due("b behind a", 0, () -> x.outdent(1));
        checks.same("lines", "a a/c a/e b b/d f", Checks.paths(x));
        String before = Checks.all(x);
        checks.due("depth 0", Checks.STATE, () -> x.outdent(0));
        checks.due("depth 0", Checks.STATE, () -> x.outdent(5));
        checks.due("no line", Checks.NO_SUCH, () -> x.outdent(6));
        checks.due("no line", Checks.NO_SUCH, () -> x.outdent(-1));
        checks.same("unchanged", before, Checks.all(x));
        x.hoist(1);
        checks.due("depth 0 below the hoisted item", Checks.STATE, () -> x.outdent(0));
        CloneOutliner y = Checks.outlineOf("a;.b;..c;d;.e;.*1");
        checks.same("lines", "a a/b a/b/c d d/e d/b d/b/c", Checks.paths(y));
        checks.due("on this way", 4, () -> y.outdent(6));
        checks.same("lines", "a a/b d d/e d/b d/c", Checks.paths(y));
    }

    private static void outdentRefused() {
        CloneOutliner x = Checks.outlineOf("a;.b;..c;.*2");
        String before = Checks.all(x);
        checks.same("lines", "a a/b a/b/c a/c", Checks.paths(x));
        checks.due("c is a child of a", Checks.REFUSED, () -> x.outdent(2));
        checks.same("chain", "50 2", Checks.chain(x));
        checks.same("unchanged", before, Checks.all(x));
        Checks.fill(x, 1, 12);
        x.detach(1, 1);
        Checks.fill(x, 1, 12);
        checks.due("a is full", Checks.REFUSED, () -> x.outdent(2));
        checks.same("chain", "50 1", Checks.chain(x));
    }

    private static void rename() {
        checks.about("promise 10");
        CloneOutliner x = Checks.outlineOf("abc;.b");
        Checks.type(x, "abcdefghij");
        checks.due("no item", Checks.NO_SUCH, () -> x.rename(3));
        checks.due("no root", Checks.NO_SUCH, () -> x.rename(0));
        checks.due("no item", Checks.NO_SUCH, () -> x.rename(-1));
        checks.due("buffer stays", 10, () -> x.outline(8));
        checks.due("former length", 3, () -> x.rename(1));
        checks.due("buffer empty", 0, () -> x.outline(8));
        checks.same("lines", "abcdefghij abcdefghij/b", Checks.paths(x));
        Checks.type(x, "b");
        checks.due("former length", 10, () -> x.rename(1));
        checks.same("lines", "b b/b", Checks.paths(x));
        String before = Checks.all(x);
        checks.due("empty", Checks.ARGUMENT, () -> x.rename(1));
        checks.due("position", 0, x::errorPosition);
        Checks.type(x, "ab c");
        checks.due("no name", Checks.ARGUMENT, () -> x.rename(2));
        checks.due("position", 2, x::errorPosition);
        checks.due("buffer empty", 0, () -> x.outline(8));
        checks.same("unchanged", before, Checks.all(x));
        Checks.type(x, "A");
        checks.due("no item comes first", Checks.NO_SUCH, () -> x.rename(9));
        checks.due("position stays", 2, x::errorPosition);
    }

    private static void setNumber() {
        checks.about("promise 11");
        CloneOutliner x = Checks.outlineOf("a");
        checks.due("value", 0, () -> x.setNumber(1, false, 999));
        checks.due("value", 999, () -> x.setNumber(1, false, -999));
        checks.due("value", -999, () -> x.setNumber(1, false, -1));
        checks.due("value", -1, () -> x.item(1, 4));
        checks.due("day", -1, () -> x.setNumber(1, true, 9999));
        checks.due("day", 9999, () -> x.setNumber(1, true, 0));
        checks.due("day", 0, () -> x.setNumber(1, true, -1));
        checks.due("day", -1, () -> x.item(1, 5));
        checks.due("root", 0, () -> x.setNumber(0, false, 5));
        checks.due("root", -1, () -> x.setNumber(0, true, 6));
        checks.same("root", "5 6", x.item(0, 4) + " " + x.item(0, 5));
        String before = Checks.all(x);
        checks.due("too great a value", Checks.ARGUMENT, () -> x.setNumber(1, false, 1000));
        checks.due("too small a value", Checks.ARGUMENT, () -> x.setNumber(1, false, -1000));
        checks.due("too great a day", Checks.ARGUMENT, () -> x.setNumber(1, true, 10000));
        checks.due("too small a day", Checks.ARGUMENT, () -> x.setNumber(1, true, -2));
        checks.due("far away", Checks.ARGUMENT, () -> x.setNumber(1, true, Integer.MIN_VALUE));
        checks.due("no item comes first", Checks.NO_SUCH, () -> x.setNumber(2, true, 10000));
        checks.due("no item", Checks.NO_SUCH, () -> x.setNumber(-1, false, 0));
        checks.same("unchanged", before, Checks.all(x));
    }

    private static void setFlag() {
        checks.about("promise 12");
        CloneOutliner x = Checks.outlineOf("a;.b");
        checks.due("done", false, () -> x.setFlag(1, false, true));
        checks.due("done again", true, () -> x.setFlag(1, false, true));
        checks.same("done alone", "1 0", x.item(1, 6) + " " + x.item(1, 7));
        checks.due("folded", false, () -> x.setFlag(1, true, true));
        checks.due("not done", true, () -> x.setFlag(1, false, false));
        checks.same("folded alone", "0 1", x.item(1, 6) + " " + x.item(1, 7));
        checks.due("not folded", true, () -> x.setFlag(1, true, false));
        checks.due("not folded", false, () -> x.setFlag(1, true, false));
        checks.due("root", false, () -> x.setFlag(0, true, true));
        checks.due("root", 1, () -> x.item(0, 7));
        checks.same("a folded root shows all", "a a/b", Checks.paths(x));
        checks.due("no item", Checks.NO_SUCH, () -> x.setFlag(3, true, true));
        checks.due("no item", Checks.NO_SUCH, () -> x.setFlag(-1, false, true));
        checks.due("changes, also of nothing", 8, () -> x.outline(9));
    }
}
