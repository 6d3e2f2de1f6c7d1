/** The sentences on lines, filters and hoists, and the promises 20 to 25, at their bounds. */
public final class LineBoundsTest {
    private static final Checks checks = new Checks();

    public static void main(String[] args) {
        hoistedAtFirst();
        orderOfLines();
        depthOfLines();
        foldsLeaveOut();
        foldOfTheHoistedItem();
        foldsAboveTheHoistedItem();
        filtersIgnoreFolds();
        keptIfOneBelowFits();
        keptForEachPlace();
        hoistedItemAndFilter();
        numberedFromZero();
        noLines();
        threeHundredLines();
        oneToFiveConditions();
        fulfillsAll();
        done();
        dated();
        leaf();
        many();
        greater();
        less();
        sumsBeyondNumbers();
        letters();
        negations();
        askedByWhatIsSoNow();
        askedAfterUndoAndRestore();
        filterWithoutText();
        fourHoists();
        sameHoistedAgain();
        unhoistedInTurn();
        hoistsEndByChange();
        hoistsEndByUndo();
        hoistsEndByRestore();
        hoistsDoNotEnd();
        depthZeroIsNotMovedOutward();
        childBeforeIsNotTheLineBefore();
        placesWhileHoisted();
        everyNumberOfALine();
        indexesOfLines();
        pathBounds();
        firstLineOfAnItem();
        checks.end("LineBoundsTest");
    }

    private static void hoistedAtFirst() {
        checks.about("Lines: The hoisted item is at first the root");
        CloneOutliner x = new CloneOutliner();
        checks.due("without items", 0, () -> x.outline(4));
        Checks.load(x, 0, "a;.b");
        checks.same("lines", "a a/b", Checks.paths(x));
        checks.due("above the first line", 0, () -> x.line(0, 2));
    }

    private static void orderOfLines() {
        checks.about("Lines: for each of its children, in order, the line of this child, and behind it those below it");
        CloneOutliner x = Checks.outlineOf("a;.b;..c;.d;e;.*1;f");
        checks.same("lines", "a a/b a/b/c a/d e e/b e/b/c f", Checks.paths(x));
        x.moveBlock(0, 1, 1, 0, 0);
        x.moveBlock(1, 1, 1, 1, 0);
        checks.same("in another order", "e e/b e/b/c a a/d a/b a/b/c f", Checks.paths(x));
        x.hoist(1);
        checks.same("below the hoisted item", "d b b/c", Checks.paths(x));
    }

    private static void depthOfLines() {
        checks.about("Lines: the number of steps from the hoisted item, minus 1");
        CloneOutliner x = new CloneOutliner();
        for (int item = 0; item < 60; item++) {
            Checks.add(x, item, 0, "n");
        }
        checks.same("the least and the greatest", "0 59", x.line(0, 1) + " " + x.line(59, 1));
        x.hoist(30);
        checks.same("from the hoisted item", "0 29", x.line(0, 1) + " " + x.line(29, 1));
        x.hoist(59);
        checks.same("one line", "0 1", x.line(0, 1) + " " + x.outline(3));
    }

    private static void foldsLeaveOut() {
        checks.about("Lines: Without a filter, those below a folded item are left out");
        CloneOutliner x = Checks.outlineOf("a;.b;..c;d;.*1;.e");
        x.setFlag(2, true, true);
        checks.same("at each place of it", "a a/b d d/b d/e", Checks.paths(x));
        x.setFlag(4, true, true);
        checks.same("also those that are folded", "a a/b d", Checks.paths(x));
        x.setFlag(5, true, true);
        x.setFlag(3, true, true);
        x.setFlag(4, true, false);
        checks.same("an item without children may be folded", "a a/b d d/b d/e", Checks.paths(x));
        x.setFlag(2, true, false);
        checks.same("unfolded", "a a/b a/b/c d d/b d/b/c d/e", Checks.paths(x));
    }

    private static void foldOfTheHoistedItem() {
        checks.about("Lines: the fold of the hoisted item itself does not matter");
        CloneOutliner x = Checks.outlineOf("a;.b;..c;d");
        x.setFlag(0, true, true);
        checks.same("of the root", "a a/b a/b/c d", Checks.paths(x));
        x.setFlag(1, true, true);
        checks.same("of another one it does", "a d", Checks.paths(x));
        x.hoist(1);
        checks.same("of a hoisted one it does not", "b b/c", Checks.paths(x));
        x.setFlag(2, true, true);
        checks.same("of one below it it does", "b", Checks.paths(x));
        x.hoist(2);
        checks.same("until that one is hoisted", "c", Checks.paths(x));
        x.hoist(0);
        checks.same("of those hoisted before it does", "a d", Checks.paths(x));
    }

    private static void foldsAboveTheHoistedItem() {
        CloneOutliner x = Checks.outlineOf("a;.b;..c;...d");
        x.setFlag(1, true, true);
        x.hoist(2);
        checks.same("a fold above does not matter", "c c/d", Checks.paths(x));
    }

    private static void filtersIgnoreFolds() {
        checks.about("Lines: With a filter, folds do not matter");
        CloneOutliner x = Checks.outlineOf("a;.b;..c;d;.*1");
        for (int item = 0; item <= 4; item++) {
            x.setFlag(item, true, true);
        }
        checks.same("without a filter", "a d", Checks.paths(x));
        checks.due("with a filter", 6, () -> Checks.filter(x, "!done"));
        checks.same("lines", "a a/b a/b/c d d/b d/b/c", Checks.paths(x));
        x.hoist(1);
        checks.same("below a hoisted item", "b b/c", Checks.paths(x));
        x.filter();
        checks.same("without a filter again", "b", Checks.paths(x));
    }

    private static void keptIfOneBelowFits() {
        checks.about("Lines: an item is kept if it fits the filter, or if an item below it does");
        CloneOutliner x = Checks.outlineOf("a;.b;..c;...d;....e;.f;g;.h");
        Checks.filter(x, "~d");
        checks.same("with all above it", "a a/b a/b/c a/b/c/d", Checks.paths(x));
        checks.same("which do not fit", "0 0 0 1", fits(x));
        Checks.filter(x, "~a");
        checks.same("not with those below it", "a", Checks.paths(x));
        Checks.filter(x, "!~a");
        checks.same("a does not fit but is kept", "a a/b a/b/c a/b/c/d a/b/c/d/e a/f g g/h", Checks.paths(x));
        checks.same("fit", "0 1 1 1 1 1 1 1", fits(x));
        Checks.filter(x, "~h");
        checks.same("elsewhere", "g g/h", Checks.paths(x));
        checks.due("one fits", 1, () -> x.outline(7));
    }

    private static void keptForEachPlace() {
        checks.about("Lines: there is a line for each place whose item is kept");
        CloneOutliner x = Checks.outlineOf("a;.b;..c;d;.*1;*1;*2");
        Checks.filter(x, "~c");
        checks.same("four places", "a a/b a/b/c d d/b d/b/c b b/c c", Checks.paths(x));
        Checks.filter(x, "~b");
        checks.same("three places", "a a/b d d/b b", Checks.paths(x));
    }

    private static void hoistedItemAndFilter() {
        CloneOutliner x = Checks.outlineOf("ab;.b;..c;.d;e");
        x.hoist(1);
        Checks.filter(x, "~ab");
        checks.due("the hoisted item alone fits", 0, () -> x.outline(3));
        checks.due("it does", 1, () -> x.outline(7));
        Checks.filter(x, "~c");
        checks.same("below it", "b b/c", Checks.paths(x));
        Checks.filter(x, "~e");
        checks.same("beside it", "", Checks.paths(x));
    }

    private static String fits(CloneOutliner x) {
        StringBuilder text = new StringBuilder();
        for (int line = 0; line < x.outline(3); line++) {
            text.append(line > 0 ? " " : "").append(x.line(line, 5));
        }
        return text.toString();
    }

    private static void numberedFromZero() {
        checks.about("Lines: Lines are numbered from 0");
        CloneOutliner x = Checks.outlineOf("a;.b;c");
        checks.same("their items", "1 2 3", x.line(0, 0) + " " + x.line(1, 0) + " " + x.line(2, 0));
        for (int line : Checks.noIndexes(3)) {
            checks.due("line", Checks.NO_SUCH, () -> x.line(line, 0));
            checks.due("path", Checks.NO_SUCH, () -> x.path(line, 0));
            checks.due("indent", Checks.NO_SUCH, () -> x.indent(line));
            checks.due("outdent", Checks.NO_SUCH, () -> x.outdent(line));
        }
        Checks.filter(x, "~b");
        checks.due("only lines that there are", Checks.NO_SUCH, () -> x.line(2, 0));
        x.hoist(1);
        checks.due("only lines that there are", Checks.NO_SUCH, () -> x.line(1, 0));
        checks.due("the line 0", 2, () -> x.line(0, 0));
    }

    private static void noLines() {
        CloneOutliner x = Checks.outlineOf("a");
        x.hoist(1);
        for (int line : Checks.noIndexes(0)) {
            checks.due("line", Checks.NO_SUCH, () -> x.line(line, 0));
            checks.due("path", Checks.NO_SUCH, () -> x.path(line, 0));
            checks.due("indent", Checks.NO_SUCH, () -> x.indent(line));
            checks.due("outdent", Checks.NO_SUCH, () -> x.outdent(line));
        }
        checks.due("lineOf", -1, () -> x.lineOf(1));
        checks.due("filter", 0, () -> Checks.filter(x, "~a"));
    }

    private static void threeHundredLines() {
        CloneOutliner x = Checks.withPlaces(300);
        checks.due("300 lines", 300, () -> x.outline(3));
        checks.due("the last one", 0, () -> x.line(299, 1));
        checks.due("no further one", Checks.NO_SUCH, () -> x.line(300, 0));
        checks.due("with a filter", 300, () -> Checks.filter(x, "!done"));
        checks.due("the last one", 1, () -> x.line(299, 5));
        x.hoist(3);
        checks.due("as many as are below one place of it", x.item(3, 14), () -> x.outline(3));
    }

    private static void oneToFiveConditions() {
        checks.about("Filter: A filter consists of 1 to 5 conditions");
        CloneOutliner x = Checks.outlineOf("a;b");
        checks.due("1", 1, () -> Checks.filter(x, "~a"));
        checks.due("5", 1, () -> Checks.filter(x, "~a&leaf&!done&!many&!dated"));
        checks.due("all of them", 5, () -> x.outline(6));
        Checks.type(x, "~b&leaf&!done&!many&!dated&leaf");
        checks.due("6", Checks.ARGUMENT, x::filter);
        checks.due("at the & behind the fifth one", 26, x::errorPosition);
        checks.same("the filter stays", "5 a", x.outline(6) + " " + Checks.paths(x));
        checks.due("0 are none", 2, x::filter);
        checks.due("no condition", 0, () -> x.outline(6));
    }

    private static void fulfillsAll() {
        checks.about("Filter: an item fits it if it fulfills all of them");
        CloneOutliner x = Checks.outlineOf("a=0;b@1;c@1=0x;d");
        String[] parts = {"leaf", "!many", "<1", "~c", "done"};
        for (int wrong = 0; wrong < 5; wrong++) {
            StringBuilder text = new StringBuilder();
            for (int at = 0; at < 5; at++) {
                text.append(at > 0 ? "&" : "").append(at != wrong ? parts[at] : at == 1 ? "many" : "!" + parts[at]);
            }
            checks.due("all but one of " + text, 0, () -> Checks.filter(x, text.toString()));
        }
        checks.due("all", 1, () -> Checks.filter(x, String.join("&", parts)));
        checks.due("in another order", 1, () -> Checks.filter(x, "done&~c&<1&!many&leaf"));
        checks.due("two of two", 1, () -> Checks.filter(x, "done&dated"));
        checks.due("a condition and its opposite", 0, () -> Checks.filter(x, "done&!done"));
    }

    /** The numbers of the items that fit. */
    private static String fitting(CloneOutliner x, String text) {
        Checks.filter(x, text);
        StringBuilder found = new StringBuilder();
        for (int item = 1; item <= x.outline(1); item++) {
            int line = x.lineOf(item);
            if (line >= 0 && x.line(line, 5) == 1) {
                found.append(found.length() > 0 ? " " : "").append(item);
            }
        }
        return found.toString();
    }

    private static void done() {
        checks.about("Filter: \"done\", it is done");
        CloneOutliner x = Checks.outlineOf("a=0x;.b;c;.d=0x;e");
        checks.same("by itself", "1 4", fitting(x, "done"));
        x.setFlag(1, false, false);
        checks.same("not any more", "4", fitting(x, "done"));
        x.setFlag(5, true, true);
        checks.same("folded is not done", "4", fitting(x, "done"));
    }

    private static void dated() {
        checks.about("Filter: \"dated\", it has a day");
        CloneOutliner x = Checks.outlineOf("a@0;b@9999;c;.d@1;e=5x");
        checks.same("its own one, also 0", "1 2 4", fitting(x, "dated"));
        x.setNumber(1, true, -1);
        checks.same("not any more", "2 4", fitting(x, "dated"));
    }

    private static void leaf() {
        checks.about("Filter: \"leaf\", it has no children");
        CloneOutliner x = Checks.outlineOf("a;.b;..c;d;e;.*1");
        checks.same("leaves", "3 4", fitting(x, "leaf"));
        x.detach(2, 0);
        checks.same("one more", "2 4", fitting(x, "leaf"));
    }

    private static void many() {
        checks.about("Filter: \"many\", it has more than one place");
        CloneOutliner x = Checks.outlineOf("a;.b;..c;d");
        checks.same("one place each", "", fitting(x, "many"));
        x.clone(2, 4, 0);
        checks.same("c has one parent but two places", "2 3", fitting(x, "many"));
        x.detach(1, 0);
        checks.same("one place again", "", fitting(x, "many"));
    }

    private static void greater() {
        checks.about("Filter: \">\" and a number, its sum is greater than the number");
        CloneOutliner x = Checks.outlineOf("a=5;b=-5;c;.d=3;.e=2;f=999;g=-999");
        checks.same("> 4", "1 3 6", fitting(x, ">4"));
        checks.same("> 5", "6", fitting(x, ">5"));
        checks.same("> -5", "1 3 4 5 6", fitting(x, ">-5"));
        checks.same("> -6", "1 2 3 4 5 6", fitting(x, ">-6"));
        checks.same("> 998", "6", fitting(x, ">998"));
        checks.same("> 999", "", fitting(x, ">999"));
        checks.same("> -999", "1 2 3 4 5 6", fitting(x, ">-999"));
        checks.same("> 2, the sum counts", "1 3 4 6", fitting(x, ">2"));
    }

    private static void less() {
        checks.about("Filter: \"<\" and a number, its sum is less than it");
        CloneOutliner x = Checks.outlineOf("a=5;b=-5;c;.d=3;.e=2;f=999;g=-999");
        checks.same("< 5", "2 4 5 7", fitting(x, "<5"));
        checks.same("< 6", "1 2 3 4 5 7", fitting(x, "<6"));
        checks.same("< -5", "7", fitting(x, "<-5"));
        checks.same("< -4", "2 7", fitting(x, "<-4"));
        checks.same("< -998", "7", fitting(x, "<-998"));
        checks.same("< -999", "", fitting(x, "<-999"));
        checks.same("< 999", "1 2 3 4 5 7", fitting(x, "<999"));
        checks.same("< 3, the sum counts", "2 5 7", fitting(x, "<3"));
        checks.same("< 0", "2 7", fitting(x, "<0"));
        checks.same("< -0", "2 7", fitting(x, "<-0"));
    }

    private static void sumsBeyondNumbers() {
        CloneOutliner x = Checks.outlineOf("a=999;.b=1;c=-999;.d=-1;e=7;.f=1;*5;g");
        checks.same("1000 is greater than 999", "1", fitting(x, ">999"));
        checks.same("-1000 is less than -999", "3", fitting(x, "<-999"));
        checks.same("a clone counts once in a sum", "5", fitting(x, ">7&!~a"));
        checks.same("both bounds", "2 6 7", fitting(x, ">-1&<2"));
        x.clone(6, 7, 0);
        checks.same("g with its clone", "2 6 7", fitting(x, ">0&<2"));
    }

    private static void letters() {
        checks.about("Filter: \"~\" and letters, its name contains these letters next to one another");
        CloneOutliner x = Checks.outlineOf("abcdefghij;acb;b;aab");
        checks.same("at the front", "1", fitting(x, "~abc"));
        checks.same("at the end", "1", fitting(x, "~hij"));
        checks.same("in between", "1", fitting(x, "~ef"));
        checks.same("all ten", "1", fitting(x, "~abcdefghij"));
        checks.same("one letter", "1 2 3 4", fitting(x, "~b"));
        checks.same("next to one another", "1 4", fitting(x, "~ab"));
        checks.same("in their order", "2", fitting(x, "~cb"));
        checks.same("not apart", "", fitting(x, "~ace"));
        checks.same("found though it starts twice", "4", fitting(x, "~aab"));
        checks.same("not beyond the end", "", fitting(x, "~ijk"));
        checks.same("not longer", "", fitting(x, "~bb"));
        checks.same("a word is letters, too", "", fitting(x, "~done"));
        CloneOutliner y = Checks.outlineOf("abcdefghij;abcdefghik;zz");
        checks.same("the tenth letter counts", "2", fitting(y, "~abcdefghik"));
        Checks.type(y, "a");
        y.rename(3);
        checks.same("the second letter is no more", "", fitting(y, "~z"));
    }

    private static void negations() {
        checks.about("Filter: With \"!\" ahead of it, a condition is fulfilled if it is not fulfilled without it");
        CloneOutliner x = Checks.outlineOf("ab@0=5x;.b=-7;cb;.*1;.d=9x;e@3");
        for (String text : new String[] {"done", "dated", "leaf", "many", ">5", ">-2", "<5", "<-2", "~b", "~ab"}) {
            String fit = " " + fitting(x, text) + " ";
            StringBuilder others = new StringBuilder();
            for (int item = 1; item <= 5; item++) {
                others.append(fit.contains(" " + item + " ") ? "" : " " + item);
            }
            checks.same("not " + text, others.toString().trim(), fitting(x, "!" + text));
            checks.due("neither", 0, () -> Checks.filter(x, text + "&!" + text));
        }
        checks.same("only the one behind it", "1", fitting(x, "!leaf&done"));
        checks.same("both", "3", fitting(x, "!leaf&!done"));
    }

    private static void askedByWhatIsSoNow() {
        checks.about("Filter: A filter is asked by what is so now");
        CloneOutliner x = Checks.outlineOf("a;.b;c");
        Checks.filter(x, "done");
        x.setFlag(2, false, true);
        checks.same("done", "a a/b", Checks.paths(x));
        Checks.filter(x, "dated");
        x.setNumber(3, true, 0);
        checks.same("dated", "c", Checks.paths(x));
        Checks.filter(x, "leaf");
        Checks.add(x, 3, 0, "d");
        checks.same("leaf", "a a/b c c/d", Checks.paths(x));
        x.detach(1, 0);
        checks.same("a is one now", "a c c/d", Checks.paths(x));
        Checks.filter(x, "many");
        x.clone(4, 1, 0);
        checks.same("many", "a a/d c c/d", Checks.paths(x));
        Checks.filter(x, ">6");
        x.setNumber(4, false, 7);
        checks.same("sums", "a a/d c c/d", Checks.paths(x));
        x.setNumber(1, false, -1);
        checks.same("a has another one but is kept", "0 1 1 1", fits(x));
        Checks.filter(x, "~x");
        Checks.type(x, "x");
        x.rename(1);
        checks.same("names", "x", Checks.paths(x));
        Checks.load(x, 3, "xx");
        checks.same("of new items", "x c c/xx", Checks.paths(x));
        x.moveBlock(3, 1, 1, 1, 0);
        checks.same("of moved items", "x x/xx", Checks.paths(x));
    }

    private static void askedAfterUndoAndRestore() {
        CloneOutliner x = Checks.outlineOf("a;b");
        x.snapshot();
        Checks.filter(x, "done");
        x.setFlag(1, false, true);
        x.setFlag(2, false, true);
        checks.same("done", "a b", Checks.paths(x));
        x.undo();
        checks.same("after an undo", "a", Checks.paths(x));
        x.restore();
        checks.same("after a restore", "", Checks.paths(x));
        checks.due("the filter is there", 1, () -> x.outline(6));
    }

    private static void filterWithoutText() {
        checks.about("promise 22: there is no filter if the text is empty");
        CloneOutliner x = Checks.outlineOf("a;.b");
        checks.due("none before, none now", 2, x::filter);
        Checks.filter(x, "~a");
        checks.due("one line", 1, () -> x.outline(3));
        checks.due("none now", 2, x::filter);
        checks.same("all fit", "1 1", fits(x));
        checks.due("an empty text is no error", Checks.STATE, x::errorPosition);
        Checks.type(x, " ");
        checks.due("a space is not empty", Checks.ARGUMENT, x::filter);
        x.setFlag(1, true, true);
        checks.due("the number of lines then", 1, x::filter);
        checks.due("the number of lines then", 2, () -> Checks.filter(x, "~b"));
    }

    private static void fourHoists() {
        checks.about("promise 20: if there are 4 hoists");
        CloneOutliner x = Checks.outlineOf("a;b;c;d;e");
        for (int item = 1; item <= 4; item++) {
            int number = item;
            checks.due("hoist", item, () -> x.hoist(number));
        }
        checks.due("the fifth", Checks.STATE, () -> x.hoist(5));
        checks.same("as it was", "4 4", x.outline(4) + " " + x.outline(5));
        checks.due("no item comes first", Checks.NO_SUCH, () -> x.hoist(6));
        x.unhoist();
        checks.due("again the fourth", 4, () -> x.hoist(5));
        checks.due("hoists are no changes", 1, () -> x.outline(9));
    }

    private static void sameHoistedAgain() {
        checks.about("Details: The same item can be hoisted again");
        CloneOutliner x = Checks.outlineOf("a;.b");
        checks.same("four times", "1 2 3 4", x.hoist(1) + " " + x.hoist(1) + " " + x.hoist(1) + " " + x.hoist(1));
        checks.same("back three times", "1 1 1", x.unhoist() + " " + x.unhoist() + " " + x.unhoist());
        checks.due("back to the root", 0, x::unhoist);
        checks.due("no more", Checks.STATE, x::unhoist);
        checks.same("the root as well", "1 2", x.hoist(0) + " " + x.hoist(0));
        checks.same("back", "0 0", x.unhoist() + " " + x.unhoist());
    }

    private static void unhoistedInTurn() {
        checks.about("promise 21: Ends the latest hoist");
        CloneOutliner x = Checks.outlineOf("a;.b;c");
        x.hoist(3);
        x.hoist(2);
        x.hoist(0);
        x.hoist(1);
        checks.due("the root", 0, x::unhoist);
        checks.due("below it", 3, () -> x.outline(3));
        checks.due("b", 2, x::unhoist);
        checks.due("c", 3, x::unhoist);
        checks.due("none", 0, x::unhoist);
        checks.due("no hoists", Checks.STATE, x::unhoist);
    }

    private static void hoistsEndByChange() {
        checks.about("Changes: If the hoisted item or one of the former ones is no more, all hoists end");
        for (int gone = 0; gone < 3; gone++) {
            CloneOutliner x = Checks.outlineOf("a;.b;c;d");
            int[] order = {gone == 0 ? 2 : 3, gone == 1 ? 2 : 4, gone == 2 ? 2 : 3};
            for (int item : order) {
                x.hoist(item);
            }
            x.detach(1, 0);
            checks.same("by detach, the one hoisted as number " + gone, "0 0", x.outline(4) + " " + x.outline(5));
            checks.due("none is left", Checks.STATE, x::unhoist);
            checks.same("lines", "a c d", Checks.paths(x));
        }
        CloneOutliner y = Checks.outlineOf("a;.b;..c");
        y.hoist(3);
        y.detach(0, 0);
        checks.due("also by what is above it", 0, () -> y.outline(5));
        checks.same("four can be hoisted again", "1 2 3 4", y.hoist(0) + " " + y.hoist(0) + " " + y.hoist(0) + " "
            + y.hoist(0));
    }

    private static void hoistsEndByUndo() {
        CloneOutliner x = Checks.outlineOf("a");
        Checks.load(x, 1, "b;.c");
        x.hoist(1);
        x.hoist(3);
        x.hoist(0);
        x.undo();
        checks.same("by an undo of load", "0 0", x.outline(4) + " " + x.outline(5));
        Checks.add(x, 0, 0, "b");
        x.hoist(2);
        x.undo();
        checks.same("by an undo of add", "0 0", x.outline(4) + " " + x.outline(5));
        x.hoist(1);
        x.undo();
        checks.same("by an undo of all", "0 0", x.outline(4) + " " + x.outline(5));
    }

    private static void hoistsEndByRestore() {
        CloneOutliner x = Checks.outlineOf("a");
        x.snapshot();
        Checks.add(x, 1, 0, "b");
        x.hoist(2);
        x.hoist(1);
        x.restore();
        checks.same("by a restore, a former one", "0 0", x.outline(4) + " " + x.outline(5));
        Checks.add(x, 1, 0, "b");
        x.hoist(1);
        x.hoist(2);
        x.restore();
        checks.same("by a restore, the hoisted one", "0 0", x.outline(4) + " " + x.outline(5));
        x.hoist(1);
        x.clear();
        checks.same("by clear", "0 0", x.outline(4) + " " + x.outline(5));
        x.restore();
        checks.same("which a restore does not bring back", "0 0", x.outline(4) + " " + x.outline(5));
    }

    private static void hoistsDoNotEnd() {
        CloneOutliner x = Checks.outlineOf("a;.b;..c;d;.*1");
        x.snapshot();
        x.hoist(1);
        x.hoist(2);
        x.detach(1, 0);
        checks.same("b has another place", "2 2", x.outline(4) + " " + x.outline(5));
        x.detach(2, 0);
        checks.same("another item is no more", "2 2", x.outline(4) + " " + x.outline(5));
        x.moveBlock(4, 0, 0, 0, 0);
        checks.same("moved", "2 2", x.outline(4) + " " + x.outline(5));
        x.undo();
        x.undo();
        checks.same("undone", "2 2", x.outline(4) + " " + x.outline(5));
        x.restore();
        checks.same("restored", "2 2", x.outline(4) + " " + x.outline(5));
        checks.same("lines", "c", Checks.paths(x));
        checks.due("back", 1, x::unhoist);
        CloneOutliner y = Checks.outlineOf("a");
        y.hoist(0);
        y.undo();
        checks.same("the root is always there", "0 1", y.outline(4) + " " + y.outline(5));
    }

    private static void depthZeroIsNotMovedOutward() {
        checks.about("Details: A line whose depth is 0 cannot be moved outward, also if the hoisted item has a parent");
        CloneOutliner x = Checks.outlineOf("a;.b;..c;...d");
        checks.due("below the root", Checks.STATE, () -> x.outdent(0));
        x.hoist(2);
        checks.due("below a hoisted item", Checks.STATE, () -> x.outdent(0));
        checks.due("nothing is refused", Checks.STATE, () -> x.refusal(0));
        checks.due("depth 1 can", 2, () -> x.outdent(1));
        checks.same("lines", "c d", Checks.paths(x));
        checks.due("now it cannot", Checks.STATE, () -> x.outdent(1));
    }

    private static void childBeforeIsNotTheLineBefore() {
        checks.about("Details: The child that is right before an item is that in the order of the children");
        CloneOutliner x = Checks.outlineOf("a;.b;..c;.d;e");
        checks.due("not the line before", 2, () -> x.indent(3));
        checks.same("at the end of its children", "3 4", Checks.related(x, 2, false));
        x.setFlag(1, true, true);
        checks.due("also below a folded one", 1, () -> x.indent(1));
        checks.same("lines", "a", Checks.paths(x));
        CloneOutliner y = Checks.outlineOf("a;b;c;d");
        Checks.filter(y, "!~c&!~b");
        checks.same("lines", "a d", Checks.paths(y));
        checks.due("also one that is not shown", 3, () -> y.indent(1));
        checks.same("children", "4", Checks.related(y, 3, false));
        CloneOutliner z = Checks.outlineOf("a;b");
        Checks.filter(z, "~b");
        checks.due("before the only line", 1, () -> z.indent(0));
    }

    private static void placesWhileHoisted() {
        checks.about("Details: Places count in the whole outline, also while an item is hoisted");
        CloneOutliner x = Checks.outlineOf("a;.b;c;.*1;d");
        x.hoist(3);
        checks.same("places", "5 2", x.outline(2) + " " + x.item(2, 2));
        checks.due("many", 1, () -> Checks.filter(x, "many"));
        checks.due("clone", 3, () -> x.clone(2, 4, 0));
        CloneOutliner y = Checks.withPlaces(300);
        y.hoist(1);
        checks.refused("no room in the whole outline", "10 4", y, () -> Checks.add(y, 1, 0, "n"));
    }

    private static void everyNumberOfALine() {
        checks.about("promise 23, each number by itself");
        CloneOutliner x = Checks.outlineOf("abc;p;.q;.de;..f;...g@1");
        Checks.filter(x, "!~f");
        int[][] due = {{1, 0, 0, 0, 3, 1}, {2, 0, 0, 1, 1, 1}, {3, 1, 2, 0, 3, 1}, {4, 1, 2, 1, 4, 1},
            {5, 2, 4, 0, 6, 0}, {6, 3, 5, 0, 8, 1}};
        for (int line = 0; line < due.length; line++) {
            for (int what = 0; what <= 5; what++) {
                int at = line;
                int number = what;
                checks.due("what " + what + " of the line " + line, due[line][what], () -> x.line(at, number));
            }
        }
    }

    private static void indexesOfLines() {
        checks.about("promise 23, 3 for its index among the children of that one");
        CloneOutliner x = new CloneOutliner();
        Checks.fill(x, 0, 12);
        checks.same("0 to 11", "0 11", x.line(0, 3) + " " + x.line(11, 3));
        x.clone(12, 1, 0);
        checks.same("at each of its places", "0 11", x.line(1, 3) + " " + x.line(12, 3));
        x.setFlag(12, false, true);
        x.detach(1, 0);
        checks.due("with a filter", 1, () -> Checks.filter(x, "done"));
        checks.due("those that are not shown count", 11, () -> x.line(0, 3));
        checks.due("without a filter, 1 for fits", 1, () -> {
            x.filter();
            return x.line(0, 5);
        });
    }

    private static void pathBounds() {
        checks.about("promise 24, with \"/\" between two of them");
        CloneOutliner x = Checks.outlineOf("abcdefghij;.k;..lm;n");
        checks.same("paths", "abcdefghij abcdefghij/k abcdefghij/k/lm n", Checks.paths(x));
        int[] lengths = {10, 12, 15, 1};
        for (int line = 0; line < 4; line++) {
            int at = line;
            checks.due("length", lengths[line], () -> x.line(at, 4));
            for (int index : Checks.noIndexes(lengths[line])) {
                checks.due("no index", Checks.INDEX, () -> x.path(at, index));
            }
        }
        x.hoist(2);
        checks.same("from the first one below the hoisted item", "lm", Checks.paths(x));
        x.hoist(0);
        checks.same("below the root", "abcdefghij/k/lm", Checks.path(x, 2));
    }

    private static void firstLineOfAnItem() {
        checks.about("promise 25: the first line whose item is a given one, or -1 if there is none");
        CloneOutliner x = Checks.outlineOf("a;.b;c;.*1;*1");
        checks.same("lines", "a a/b c c/b b", Checks.paths(x));
        checks.same("first lines", "0 1 2", x.lineOf(1) + " " + x.lineOf(2) + " " + x.lineOf(3));
        x.setFlag(1, true, true);
        checks.due("the first one that is shown", 2, () -> x.lineOf(2));
        for (int item : Checks.noItems(x)) {
            checks.due("no item", -1, () -> x.lineOf(item));
        }
        checks.due("the root", -1, () -> x.lineOf(0));
        x.hoist(3);
        checks.same("the hoisted one and those beside it", "-1 -1 0", x.lineOf(3) + " " + x.lineOf(1) + " "
            + x.lineOf(2));
        Checks.filter(x, "~c");
        checks.due("one that is not kept", -1, () -> x.lineOf(2));
        CloneOutliner y = Checks.withPlaces(300);
        checks.due("the last line", 299, () -> y.lineOf(y.related(0, 7, false)));
    }
}
