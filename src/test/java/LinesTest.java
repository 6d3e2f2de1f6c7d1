/** The promises 20 to 25: hoists, filters and lines. */
public final class LinesTest {
    private static final Checks checks = new Checks();

    public static void main(String[] args) {
        hoist();
        unhoist();
        hoistsEnd();
        hoistsStay();
        filter();
        filterKeepsParents();
        filterConditions();
        filterIsAskedNow();
        line();
        folds();
        path();
        lineOf();
        checks.end("LinesTest");
    }

    private static void hoist() {
        checks.about("promise 20");
        CloneOutliner x = Checks.outlineOf("a;.b;..c;d;.*1");
        checks.due("one", 1, () -> x.hoist(2));
        checks.same("lines", "c", Checks.paths(x));
        checks.due("the same again", 2, () -> x.hoist(2));
        checks.due("the root", 3, () -> x.hoist(0));
        checks.same("lines", "a a/b a/b/c d d/b d/b/c", Checks.paths(x));
        checks.due("no item", Checks.NO_SUCH, () -> x.hoist(5));
        checks.due("no item", Checks.NO_SUCH, () -> x.hoist(-1));
        checks.due("four", 4, () -> x.hoist(3));
        checks.same("no lines", "", Checks.paths(x));
        checks.due("no more", Checks.STATE, () -> x.hoist(1));
        checks.due("no item comes first", Checks.NO_SUCH, () -> x.hoist(5));
        checks.same("unchanged", "3 4", x.outline(4) + " " + x.outline(5));
        checks.due("no change", 1, () -> x.outline(9));
    }

    private static void unhoist() {
        checks.about("promise 21");
        CloneOutliner x = Checks.outlineOf("a;.b;..c");
        checks.due("none", Checks.STATE, x::unhoist);
        x.hoist(1);
        x.hoist(2);
        x.hoist(2);
        checks.due("back", 2, x::unhoist);
        checks.due("back", 1, x::unhoist);
        checks.same("lines", "b b/c", Checks.paths(x));
        checks.due("back", 0, x::unhoist);
        checks.due("none", Checks.STATE, x::unhoist);
        checks.same("lines", "a a/b a/b/c", Checks.paths(x));
    }

    private static void hoistsEnd() {
        CloneOutliner x = Checks.outlineOf("a;.b;c");
        x.hoist(2);
        x.hoist(3);
        x.detach(1, 0);
        checks.same("a former one is no more", "0 0", x.outline(4) + " " + x.outline(5));
        x.undo();
        checks.due("an undo brings none back", 0, () -> x.outline(5));
        x.hoist(0);
        x.hoist(2);
        x.detach(1, 0);
        checks.due("the hoisted one is no more", Checks.STATE, x::unhoist);
        CloneOutliner y = Checks.outlineOf("a");
        y.snapshot();
        Checks.add(y, 0, 0, "b");
        y.hoist(2);
        y.hoist(1);
        y.undo();
        checks.due("by an undo", 0, () -> y.outline(5));
        Checks.add(y, 0, 0, "b");
        y.hoist(2);
        y.restore();
        checks.due("by a restore", 0, () -> y.outline(5));
        y.hoist(1);
        y.clear();
        checks.due("by clear", 0, () -> y.outline(5));
    }

    private static void hoistsStay() {
        CloneOutliner x = Checks.outlineOf("a;.b;c;.*1");
        x.snapshot();
        x.hoist(2);
        x.detach(1, 0);
        checks.due("the item has a place left", 2, () -> x.outline(4));
        x.undo();
        x.restore();
        checks.due("nor do undo and restore end it", 1, () -> x.outline(5));
        x.hoist(1);
        x.detach(0, 1);
        checks.due("another item is no more", 2, () -> x.outline(5));
    }

    private static void filter() {
        checks.about("promise 22");
        CloneOutliner x = Checks.outlineOf("a;.b;..c;d;.b");
        checks.due("two of them with parents", 4, () -> Checks.filter(x, "~b"));
        checks.same("lines", "a a/b d d/b", Checks.paths(x));
        checks.due("buffer empty", 0, () -> x.outline(8));
        checks.due("one condition", 1, () -> x.outline(6));
        Checks.type(x, "~b&");
        checks.due("malformed", Checks.ARGUMENT, x::filter);
        checks.due("position", 3, x::errorPosition);
        checks.due("buffer empty", 0, () -> x.outline(8));
        checks.same("filter as before", "a a/b d d/b", Checks.paths(x));
        Checks.type(x, "~c&?");
        checks.due("malformed", Checks.ARGUMENT, x::filter);
        checks.same("filter as before", "a a/b d d/b", Checks.paths(x));
        checks.due("another", 3, () -> Checks.filter(x, "~c&leaf&!done"));
        Checks.type(x, "~b&done&many&>");
        checks.due("malformed", Checks.ARGUMENT, x::filter);
        checks.same("filter as before", "a a/b a/b/c", Checks.paths(x));
        checks.due("three conditions", 3, () -> x.outline(6));
        checks.due("none", 5, x::filter);
        checks.due("no condition", 0, () -> x.outline(6));
        checks.due("no change", 1, () -> x.outline(9));
        x.hoist(1);
        checks.due("below the hoisted item", 1, () -> Checks.filter(x, "~b"));
        checks.due("five conditions", 1, () -> Checks.filter(x, "~b&!done&!dated&!leaf&!many"));
        checks.due("five long conditions", 0, () -> Checks.filter(x,
            "!~abcdefghij&!~bcdefghijk&~cdefghijkl&!~defghijklm&!~efghijklmn"));
    }

    private static void filterKeepsParents() {
        CloneOutliner x = Checks.outlineOf("a;.b;..c=0x;..d;e;.*1;f");
        x.setFlag(1, true, true);
        x.setFlag(2, true, true);
        checks.same("folds matter without a filter", "a e e/b f", Checks.paths(x));
        checks.due("folds do not matter with one", 6, () -> Checks.filter(x, "done"));
        checks.same("lines", "a a/b a/b/c e e/b e/b/c", Checks.paths(x));
        checks.same("who fits", "0 0 1 0 0 1", fits(x));
        checks.due("c alone", 1, () -> x.outline(7));
        checks.due("all but those with nothing", 9, () -> Checks.filter(x, "leaf"));
        checks.same("who fits", "0 0 1 1 0 0 1 1 1", fits(x));
        x.filter();
        checks.same("without a filter all fit", "1 1 1 1", fits(x));
        checks.due("all but the root", 6, () -> x.outline(7));
    }

    private static void filterConditions() {
        CloneOutliner x = Checks.outlineOf("ab@0=5x;.bca=-7;cab@9;.*1;abc=2x");
        checks.same("done", "1 4", fitting(x, "done"));
        checks.same("not done", "2 3", fitting(x, "!done"));
        checks.same("dated", "1 3", fitting(x, "dated"));
        checks.same("not dated", "2 4", fitting(x, "!dated"));
        checks.same("leaf", "2 4", fitting(x, "leaf"));
        checks.same("not leaf", "1 3", fitting(x, "!leaf"));
        checks.same("many", "2", fitting(x, "many"));
        checks.same("not many", "1 3 4", fitting(x, "!many"));
        checks.same("greater", "1 4", fitting(x, ">-7"));
        checks.same("greater", "4", fitting(x, ">-2"));
        checks.same("not greater", "1 2 3", fitting(x, "!>-2"));
        checks.same("minus zero", "4", fitting(x, ">-0"));
        checks.same("less", "2 3", fitting(x, "<-2"));
        checks.same("less", "1 2 3 4", fitting(x, "<3"));
        checks.same("not less", "4", fitting(x, "!<2"));
        checks.same("letters", "1 3 4", fitting(x, "~ab"));
        checks.same("letters", "2 4", fitting(x, "~bc"));
        checks.same("letters", "2 3", fitting(x, "~ca"));
        checks.same("all of a name", "3", fitting(x, "~cab"));
        checks.same("longer than a name", "", fitting(x, "~abcdefghij"));
        checks.same("no letters", "2 3", fitting(x, "!~abc&!done"));
        checks.same("all of them", "4", fitting(x, "done&leaf&!dated&>0&~b"));
        Checks.type(x, "c");
        x.rename(2);
        checks.same("nothing of a former name", "", fitting(x, "~ca&leaf"));
        x.undo();
        checks.same("none", "", fitting(x, "done&!done"));
    }

    private static void filterIsAskedNow() {
        CloneOutliner x = Checks.outlineOf("a;.b;c");
        Checks.filter(x, "many");
        checks.due("none", 0, () -> x.outline(3));
        x.clone(2, 3, 0);
        checks.same("b now", "a a/b c c/b", Checks.paths(x));
        x.hoist(3);
        checks.same("places count in the whole outline", "b", Checks.paths(x));
        x.undo();
        checks.due("none again", 0, () -> x.outline(3));
        checks.due("the filter is not undone", 1, () -> x.outline(6));
        x.unhoist();
        Checks.filter(x, ">3");
        x.setNumber(2, false, 4);
        checks.same("sums of now", "a a/b", Checks.paths(x));
        x.snapshot();
        x.filter();
        x.restore();
        checks.due("nor saved", 0, () -> x.outline(6));
    }

    private static void line() {
        checks.about("promise 23");
        CloneOutliner x = Checks.outlineOf("a;bc;.def;..g;.h;i;.*2");
        checks.same("lines", "a bc bc/def bc/def/g bc/h i i/def i/def/g", Checks.paths(x));
        checks.same("a", "1 0 0 0 1 1", lineNumbers(x, 0));
        checks.same("bc", "2 0 0 1 2 1", lineNumbers(x, 1));
        checks.same("def", "3 1 2 0 6 1", lineNumbers(x, 2));
        checks.same("g", "4 2 3 0 8 1", lineNumbers(x, 3));
        checks.same("h", "5 1 2 1 4 1", lineNumbers(x, 4));
        checks.same("i/def", "3 1 6 0 5 1", lineNumbers(x, 6));
        x.hoist(2);
        checks.same("below a hoisted item", "3 0 2 0 3 1", lineNumbers(x, 0));
        Checks.filter(x, "~h");
        checks.same("index among all children", "5 0 2 1 1 1", lineNumbers(x, 0));
        checks.due("no line", Checks.NO_SUCH, () -> x.line(1, 0));
        checks.due("no line", Checks.NO_SUCH, () -> x.line(-1, 0));
        checks.due("no line comes first", Checks.NO_SUCH, () -> x.line(Integer.MAX_VALUE, 6));
        checks.due("what", Checks.ARGUMENT, () -> x.line(0, 6));
        checks.due("what", Checks.ARGUMENT, () -> x.line(0, -1));
        CloneOutliner y = Checks.withPlaces(300);
        checks.due("300 lines", 300, () -> y.outline(3));
        checks.due("the last one", y.related(0, 7, false), () -> y.line(299, 0));
        checks.due("no further", Checks.NO_SUCH, () -> y.line(300, 0));
    }

    private static void folds() {
        CloneOutliner x = Checks.outlineOf("a;.b;..c;d;.*1");
        x.setFlag(2, true, true);
        checks.same("at each place", "a a/b d d/b", Checks.paths(x));
        x.hoist(2);
        checks.same("not the hoisted one", "c", Checks.paths(x));
        x.hoist(1);
        checks.same("but below it", "b", Checks.paths(x));
        x.setFlag(2, true, false);
        checks.same("unfolded", "b b/c", Checks.paths(x));
        x.unhoist();
        x.unhoist();
        x.setFlag(1, true, true);
        checks.same("one place only", "a d d/b d/b/c", Checks.paths(x));
    }

    private static void path() {
        checks.about("promise 24");
        CloneOutliner x = Checks.outlineOf("ab;.cde;..f");
        checks.same("path", "ab/cde/f", Checks.path(x, 2));
        checks.due("first", 'a', () -> x.path(2, 0));
        checks.due("between", '/', () -> x.path(2, 2));
        checks.due("between", '/', () -> x.path(2, 6));
        checks.due("last", 'f', () -> x.path(2, 7));
        checks.due("no index", Checks.INDEX, () -> x.path(2, 8));
        checks.due("no index", Checks.INDEX, () -> x.path(2, -1));
        checks.due("no index", Checks.INDEX, () -> x.path(0, 2));
        checks.due("no line comes first", Checks.NO_SUCH, () -> x.path(3, -1));
        checks.due("no line", Checks.NO_SUCH, () -> x.path(-1, 0));
        x.hoist(1);
        checks.same("from below the hoisted item", "cde cde/f", Checks.paths(x));
    }

    private static void lineOf() {
        checks.about("promise 25");
        CloneOutliner x = Checks.outlineOf("a;.b;..c;d;.*1;*2");
        checks.due("first of several", 1, () -> x.lineOf(2));
        checks.due("first of several", 2, () -> x.lineOf(3));
        checks.due("d", 3, () -> x.lineOf(4));
        checks.due("the root has none", -1, () -> x.lineOf(0));
        checks.due("no item", -1, () -> x.lineOf(5));
        checks.due("any int", -1, () -> x.lineOf(Integer.MIN_VALUE));
        checks.due("any int", -1, () -> x.lineOf(Integer.MAX_VALUE));
        x.setFlag(2, true, true);
        checks.due("where it is shown", 4, () -> x.lineOf(3));
        x.hoist(4);
        checks.due("not shown", -1, () -> x.lineOf(1));
        checks.due("nor the hoisted one", -1, () -> x.lineOf(4));
        checks.due("below it", 0, () -> x.lineOf(2));
    }

    private static String lineNumbers(CloneOutliner x, int line) {
        StringBuilder text = new StringBuilder();
        for (int what = 0; what <= 5; what++) {
            text.append(what > 0 ? " " : "").append(x.line(line, what));
        }
        return text.toString();
    }

    private static String fits(CloneOutliner x) {
        StringBuilder text = new StringBuilder();
        for (int line = 0; line < x.outline(3); line++) {
            text.append(line > 0 ? " " : "").append(x.line(line, 5));
        }
        return text.toString();
    }

    /** The items that fit a filter, as the lines tell. */
    private static String fitting(CloneOutliner x, String text) {
        Checks.filter(x, text);
        StringBuilder found = new StringBuilder();
        for (int item = 1; item < x.outline(0); item++) {
            int line = x.lineOf(item);
            found.append(line >= 0 && x.line(line, 5) == 1 ? " " + item : "");
        }
        checks.due("as many as told", found.toString().length() / 2, () -> x.outline(7));
        return found.toString().trim();
    }
}
