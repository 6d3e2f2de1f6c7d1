/** The promises 26 to 29: outlines as texts, error positions, refusals, and the count once more. */
public final class TextsTest {
    private static final Checks checks = new Checks();

    public static void main(String[] args) {
        load();
        loadBelow();
        loadWrong();
        loadRefused();
        loadLimits();
        errorPosition();
        errorsOfNames();
        errorsOfFilters();
        errorsOfOutlines();
        errorsOfFigures();
        errorsOfClones();
        refusal();
        isConsistent();
        checks.end("TextsTest");
    }

    private static void load() {
        checks.about("promise 26");
        CloneOutliner x = new CloneOutliner();
        checks.due("entries", 8, () -> Checks.load(x, 0, "a@12=-7x;.bx@0x;..c=0;..d=-0x;.e@9999;..*1;f=999;.*5"));
        checks.same("lines", "a a/bx a/bx/c a/bx/d a/e a/e/bx a/e/bx/c a/e/bx/d f f/bx f/bx/c f/bx/d", Checks.paths(x));
        checks.same("a", "-7 12 1 0", figures(x, 1));
        checks.same("b", "0 0 1 0", figures(x, 2));
        checks.same("c", "0 -1 0 0", figures(x, 3));
        checks.same("d", "0 -1 1 0", figures(x, 4));
        checks.same("e", "0 9999 0 0", figures(x, 5));
        checks.same("f", "999 -1 0 0", figures(x, 6));
        checks.due("buffer empty", 0, () -> x.outline(8));
        checks.due("one change", 1, () -> x.outline(9));
        checks.due("a single entry", 1, () -> Checks.load(x, 0, "xxxxxxxxxx"));
        checks.same("its name", "xxxxxxxxxx", Checks.name(x, 7));
    }

    private static void loadBelow() {
        CloneOutliner x = Checks.outlineOf("a;.b;c");
        checks.due("three", 3, () -> Checks.load(x, 1, "d;.e;f"));
        checks.same("the last children", "a a/b a/d a/d/e a/f c", Checks.paths(x));
        checks.due("a clone on the level of its entry before", 4, () -> Checks.load(x, 3, "g;h;.*0;i"));
        checks.same("lines", "a a/b a/d a/d/e a/f c c/g c/h c/h/g c/i", Checks.paths(x));
        checks.due("a clone of a clone", 5, () -> Checks.load(x, 2, "j;k;.*0;l;.*2"));
        checks.due("j at three places", 3, () -> x.item(10, 2));
        checks.due("levels fall by several", 4, () -> Checks.load(x, 0, "m;.m;..m;m"));
        checks.same("two more children", "1 3 13 16", Checks.related(x, 0, false));
    }

    private static void loadWrong() {
        CloneOutliner x = Checks.outlineOf("a;.b");
        String before = Checks.all(x);
        Checks.type(x, "c;");
        checks.due("no item", Checks.NO_SUCH, () -> x.load(3));
        checks.due("no item", Checks.NO_SUCH, () -> x.load(-1));
        checks.due("buffer stays", 2, () -> x.outline(8));
        checks.due("no error yet", Checks.STATE, x::errorPosition);
        checks.due("malformed", Checks.ARGUMENT, () -> x.load(0));
        checks.due("position", 2, x::errorPosition);
        checks.due("empty", Checks.ARGUMENT, () -> x.load(0));
        checks.due("position", 0, x::errorPosition);
        checks.same("unchanged", before, Checks.all(x));
    }

    private static void loadRefused() {
        CloneOutliner x = Checks.outlineOf("a;.b");
        String before = Checks.all(x);
        checks.due("into itself", Checks.REFUSED, () -> Checks.load(x, 1, "c;.*0"));
        checks.same("chain", "60 101 3", Checks.chain(x));
        checks.due("buffer empty", 0, () -> x.outline(8));
        checks.due("below itself", Checks.REFUSED, () -> Checks.load(x, 0, "c;.d;.e;..*0"));
        checks.same("chain", "60 103 3", Checks.chain(x));
        checks.due("child already", Checks.REFUSED, () -> Checks.load(x, 0, "c;.d;.e;*0"));
        checks.same("chain", "60 103 2", Checks.chain(x));
        checks.due("twice", Checks.REFUSED, () -> Checks.load(x, 0, "c;.d;.*1"));
        checks.same("chain", "60 102 2", Checks.chain(x));
        checks.due("malformed counts first", Checks.ARGUMENT, () -> Checks.load(x, 0, "c;.*0;"));
        checks.same("the refusal stays", "60 102 2", Checks.chain(x));
        checks.same("unchanged", before, Checks.all(x));
        checks.due("numbers go on", 3, () -> Checks.add(x, 0, 0, "c"));
    }

    private static void loadLimits() {
        CloneOutliner x = new CloneOutliner();
        checks.due("12 children", 12, () -> Checks.load(x, 0, "a;a;a;a;a;a;a;a;a;a;a;a"));
        checks.due("13th", Checks.REFUSED, () -> Checks.load(x, 0, "a;.a"));
        checks.same("chain", "60 100 1", Checks.chain(x));
        checks.due("13 at once", Checks.REFUSED, () -> Checks.load(x, 1, "a;a;a;a;a;a;a;a;a;a;a;a;a"));
        checks.same("chain", "60 112 1", Checks.chain(x));
        for (int parent = 2; parent <= 4; parent++) {
            Checks.fill(x, parent, 12);
        }
        Checks.fill(x, 5, 10);
        checks.due("58 added", 58, () -> x.outline(1));
        checks.due("only two", Checks.REFUSED, () -> Checks.load(x, 1, "a;b;c"));
        checks.same("chain", "60 102 1", Checks.chain(x));
        checks.due("two and a clone", 3, () -> Checks.load(x, 1, "a;b;.*0"));
        checks.due("60 added", 60, () -> x.outline(1));
        checks.due("none", Checks.REFUSED, () -> Checks.load(x, 1, "a"));
        checks.same("chain", "60 100 1", Checks.chain(x));
        CloneOutliner y = Checks.withPlaces(298);
        checks.due("too many places", Checks.REFUSED, () -> Checks.load(y, 0, "a;.b;..c"));
        checks.same("chain", "60 102 4", Checks.chain(y));
        checks.due("two places an entry", Checks.REFUSED, () -> Checks.load(y, 2, "a;b"));
        checks.same("chain", "60 101 4", Checks.chain(y));
        checks.due("300", 2, () -> Checks.load(y, 0, "a;.b"));
        checks.due("300", 300, () -> y.outline(2));
        CloneOutliner z = new CloneOutliner();
        Checks.type(z, ("a;.a;..a;...a;....a;.....a;......a;.......a;........a;.........a;..........*9"));
        checks.due("deep", Checks.REFUSED, () -> z.load(0));
        checks.same("chain", "60 110 3", Checks.chain(z));
        checks.due("40 entries", Checks.REFUSED, () -> Checks.load(z, 0, "a;".repeat(39) + "a"));
        checks.same("chain", "60 112 1", Checks.chain(z));
    }

    private static void errorPosition() {
        checks.about("promise 27");
        CloneOutliner x = Checks.outlineOf("a");
        checks.due("none", Checks.STATE, x::errorPosition);
        Checks.type(x, "ab9");
        checks.due("wrong", Checks.ARGUMENT, () -> x.rename(1));
        Checks.filter(x, "done");
        Checks.load(x, 0, "b");
        Checks.add(x, 0, 0, "b");
        checks.due("whatever was read after it", 2, x::errorPosition);
        x.snapshot();
        x.undo();
        x.restore();
        checks.due("neither undone nor saved", 2, x::errorPosition);
        Checks.type(x, "leaf?");
        checks.due("wrong", Checks.ARGUMENT, x::filter);
        checks.due("the last one", 4, x::errorPosition);
    }

    private static void errorsOfNames() {
        nameError("", 0);
        nameError("A", 0);
        nameError(" a", 0);
        nameError("abc.", 3);
        nameError("ab1c", 2);
        nameError("abcdefghijk", 10);
        nameError("abcdefghij;", 10);
        nameError("a@1", 1);
        nameError("`", 0);
        nameError("a{", 1);
    }

    private static void errorsOfFilters() {
        filterError("d", 1);
        filterError("do", 2);
        filterError("don", 3);
        filterError("dx", 1);
        filterError("da", 2);
        filterError("date", 4);
        filterError("dane", 2);
        filterError("doted", 2);
        filterError("donee", 4);
        filterError("done ", 4);
        filterError(" done", 0);
        filterError("le", 2);
        filterError("many&", 5);
        filterError("mane", 3);
        filterError("leaf&&", 5);
        filterError("&", 0);
        filterError("!", 1);
        filterError("!!done", 1);
        filterError("~", 1);
        filterError("~A", 1);
        filterError("~abcdefghijk", 11);
        filterError("~ab1", 3);
        filterError(">", 1);
        filterError(">-", 2);
        filterError(">--1", 2);
        filterError("><1", 1);
        filterError("<>1", 1);
        filterError("<01", 2);
        filterError("<-00", 3);
        filterError(">1234", 4);
        filterError(">-1234", 5);
        filterError(">+1", 1);
        filterError("x", 0);
        filterError("done&leaf&many&dated&~a&", 23);
        filterError("done&leaf&many&dated&~a&done", 23);
        filterError("done&leaf&many&dated&~a1", 23);
    }

    private static void errorsOfOutlines() {
        outlineError("", 0);
        outlineError(".a", 0);
        outlineError("a;", 2);
        outlineError("a;.", 3);
        outlineError("a;..b", 3);
        outlineError("a;.b;...c", 7);
        outlineError("a;.b;c;..d", 8);
        outlineError("a;;b", 2);
        outlineError("a.b", 1);
        outlineError("a; b", 2);
        outlineError("A", 0);
        outlineError(";", 0);
        outlineError("abcdefghijk", 10);
        outlineError("abcdefghijx", 10);
        outlineError("a;abcdefghijk;", 12);
        outlineError("a;.1", 3);
        outlineError("a;.b;.;", 6);
    }

    private static void errorsOfFigures() {
        outlineError("a@", 2);
        outlineError("a@x", 2);
        outlineError("a@-1", 2);
        outlineError("a@01", 3);
        outlineError("a@12345", 6);
        outlineError("a=", 2);
        outlineError("a=-", 3);
        outlineError("a=--1", 3);
        outlineError("a=00", 3);
        outlineError("a=-01", 4);
        outlineError("a=1234", 5);
        outlineError("a=1@2", 3);
        outlineError("a@1@2", 3);
        outlineError("a=1=2", 3);
        outlineError("a=1xx", 4);
        outlineError("a=1x=2", 4);
        outlineError("a@1x@2", 4);
        outlineError("a@1y", 3);
        outlineError("a@1x.", 4);
    }

    private static void errorsOfClones() {
        outlineError("*0", 0);
        outlineError("*", 0);
        outlineError("a;*", 3);
        outlineError("a;*a", 3);
        outlineError("a;*1", 3);
        outlineError("a;*10", 3);
        outlineError("a;b;*10", 5);
        outlineError("a;b;*1;*3", 8);
        outlineError("a;*100", 3);
        outlineError("a;*1000", 3);
        outlineError("a;*00", 4);
        outlineError("a;*05", 4);
        outlineError("a;*-0", 3);
        outlineError("a;*0x", 4);
        outlineError("a;*0=1", 4);
        outlineError("a;*0@1", 4);
        outlineError("a;*1x", 3);
        outlineError("a;b;*0;.c", 7);
        outlineError("a;.b;.*0;..c", 10);
        outlineError("a;.b;*1;.c", 8);
        outlineError("a;.b;.*0;.c;...c", 14);
        outlineError("a;b;c;d;e;f;g;h;i;j;k;*101", 23);
        CloneOutliner x = new CloneOutliner();
        checks.due("two digits", Checks.REFUSED, () -> Checks.load(x, 0, "a;.b;c;.b;c;.b;c;.b;c;.b;c;.*10"));
        checks.same("are one number", "60 111 3", Checks.chain(x));
    }

    private static void refusal() {
        checks.about("promise 28");
        CloneOutliner x = Checks.outlineOf("a;.b");
        checks.due("nothing", Checks.STATE, () -> x.refusal(-1));
        checks.due("refused", Checks.REFUSED, () -> x.clone(1, 2, 0));
        checks.due("code", 20, () -> x.refusal(0));
        checks.due("reason", 3, () -> x.refusal(1));
        checks.due("no more", Checks.INDEX, () -> x.refusal(2));
        checks.due("none before", Checks.INDEX, () -> x.refusal(-1));
        checks.due("refused", Checks.REFUSED, () -> x.moveBlock(0, 0, 0, 2, 0));
        checks.same("three numbers", "30 100 3", Checks.chain(x));
        checks.due("no more", Checks.INDEX, () -> x.refusal(3));
        checks.due("refused", Checks.REFUSED, () -> x.clone(2, 1, 0));
        checks.same("two again", "20 2", Checks.chain(x));
        checks.due("no more", Checks.INDEX, () -> x.refusal(2));
        x.setNumber(1, false, 4);
        x.undo();
        x.clear();
        checks.same("it stays", "20 2", Checks.chain(x));
    }

    private static void isConsistent() {
        checks.about("promise 29");
        CloneOutliner x = Checks.withPlaces(300);
        checks.due("300 places", true, x::isConsistent);
        x.detach(3, 0);
        checks.due("less", true, x::isConsistent);
        x.detach(0, 2);
        checks.due("less", true, x::isConsistent);
        x.undo();
        checks.due("undone", true, x::isConsistent);
        checks.due("refused", Checks.REFUSED, () -> Checks.load(x, 0, "a;.*0"));
        checks.due("refused", true, x::isConsistent);
        x.clear();
        checks.due("cleared", true, x::isConsistent);
    }

    private static String figures(CloneOutliner x, int item) {
        return x.item(item, 4) + " " + x.item(item, 5) + " " + x.item(item, 6) + " " + x.item(item, 7);
    }

    private static void nameError(String text, int position) {
        CloneOutliner x = Checks.outlineOf("a");
        Checks.type(x, text);
        checks.due("add " + text, Checks.ARGUMENT, () -> x.add(0, 0));
        checks.due("position of " + text, position, x::errorPosition);
        CloneOutliner y = Checks.outlineOf("a");
        Checks.type(y, text);
        checks.due("rename " + text, Checks.ARGUMENT, () -> y.rename(1));
        checks.due("position of " + text, position, y::errorPosition);
    }

    private static void filterError(String text, int position) {
        CloneOutliner x = new CloneOutliner();
        Checks.type(x, text);
        checks.due("filter " + text, Checks.ARGUMENT, x::filter);
        checks.due("position of " + text, position, x::errorPosition);
    }

    private static void outlineError(String text, int position) {
        CloneOutliner x = new CloneOutliner();
        Checks.type(x, text);
        checks.due("load " + text, Checks.ARGUMENT, () -> x.load(0));
        checks.due("position of " + text, position, x::errorPosition);
    }
}
