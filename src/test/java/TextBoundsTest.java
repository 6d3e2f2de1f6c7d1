/** The sentences on texts: after each beginning, which characters may follow and which may not, and other bounds. */
public final class TextBoundsTest {
    private static final String LETTERS = "abcdefghijklmnopqrstuvwxyz";
    private static final String DIGITS = "0123456789";
    private static final String STARTS = "dlm><~";
    private static final Checks checks = new Checks();

    private interface Reader {
        Object read(CloneOutliner x);
    }

    private static final Reader ADD = x -> x.add(0, 0);
    private static final Reader RENAME = x -> x.rename(1);
    private static final Reader FILTER = CloneOutliner::filter;
    private static final Reader LOAD = x -> x.load(0);

    public static void main(String[] args) {
        buffer();
        bufferBytes();
        names();
        words();
        bounds();
        lettersOfFilters();
        fifthCondition();
        newEntries();
        days();
        values();
        marks();
        levels();
        levelsBehindClones();
        cloneNumbers();
        cloneNumbersOfTwoDigits();
        cloneNumbersAreTakenWhole();
        fullTexts();
        numbersOfFilters();
        figuresOfEntries();
        minusZero();
        parentsOfEntries();
        clonesOfEntries();
        allOrNone();
        errorPositionIsKept();
        consistency();
        checks.end("TextBoundsTest");
    }

    /** With this beginning, a text can go on with these characters and with no others. */
    private static void goesOn(Reader reader, String beginning, boolean isWhole, String allowed) {
        outcome(reader, beginning, isWhole ? -1 : beginning.length());
        for (int code = 32; code <= 126; code++) {
            String text = beginning + (char) code;
            if (allowed.indexOf(code) < 0) {
                outcome(reader, text, beginning.length());
                outcome(reader, text + "a", beginning.length());
                outcome(reader, text + ";&0", beginning.length());
            } else {
                CloneOutliner x = read(reader, text);
                checks.due("the error position of " + text, true,
                    () -> error(x) == -1 || error(x) == beginning.length() + 1);
            }
        }
    }

    /** The error position is due, or -1 for a text that is not malformed. */
    private static void outcome(Reader reader, String text, int due) {
        CloneOutliner x = read(reader, text);
        checks.due("the error position of " + text, due, () -> error(x));
        checks.due("the buffer after " + text, 0, () -> x.outline(8));
    }

    private static CloneOutliner read(Reader reader, String text) {
        CloneOutliner x = Checks.outlineOf("z");
        Checks.type(x, text);
        try {
            reader.read(x);
            checks.due("no error in " + text, -1, () -> error(x));
        } catch (IllegalArgumentException malformed) {
            checks.due("an error in " + text, false, () -> error(x) == -1);
        } catch (UnsupportedOperationException refused) {
            checks.due("no error in " + text, -1, () -> error(x));
        }
        return x;
    }

    private static int error(CloneOutliner x) {
        try {
            return x.errorPosition();
        } catch (IllegalStateException none) {
            return -1;
        }
    }

    private static void buffer() {
        checks.about("Text: The input buffer holds up to 80 characters");
        for (int held = 76; held <= 80; held++) {
            for (int more = 0; more <= 4; more++) {
                CloneOutliner x = new CloneOutliner();
                Checks.type(x, "a".repeat(held));
                int packed = more == 0 ? 0 : 0x61616161 >>> (32 - 8 * more);
                int sum = held + more;
                checks.due(held + " and " + more, sum <= 80 ? (Object) sum : Checks.STATE, () -> x.append(packed));
                checks.due("held then", sum <= 80 ? sum : held, () -> x.outline(8));
            }
        }
        CloneOutliner x = new CloneOutliner();
        Checks.type(x, "a".repeat(80));
        checks.due("nothing more fits", Checks.STATE, () -> x.append(0x7e000000));
        checks.due("but nothing does", 80, () -> x.append(0));
        checks.due("all are read", Checks.ARGUMENT, () -> x.add(0, 0));
        checks.due("up to the 11th", 10, x::errorPosition);
        checks.due("it is empty then", 4, () -> x.append(0x61616161));
    }

    private static void bufferBytes() {
        checks.about("promise 3: the bytes from the most significant one, where bytes that are 0 are skipped");
        for (int skipped = 0; skipped < 16; skipped++) {
            int packed = 0x61626364;
            StringBuilder due = new StringBuilder();
            for (int at = 0; at < 4; at++) {
                if ((skipped >> at & 1) == 1) {
                    packed &= ~(255 << 24 - 8 * at);
                } else {
                    due.append("abcd".charAt(at));
                }
            }
            CloneOutliner x = new CloneOutliner();
            int given = packed;
            checks.due("characters", due.length(), () -> x.append(given));
            checks.due("with one more", due.length() + 1, () -> x.append('q'));
            checks.due("add", 1, () -> x.add(0, 0));
            checks.same("their order", due + "q", Checks.name(x, 1));
        }
        for (int code = 1; code <= 255; code++) {
            CloneOutliner x = new CloneOutliner();
            int packed = code;
            boolean fits = code >= 32 && code <= 126;
            checks.due("the code " + code, fits ? (Object) 1 : Checks.ARGUMENT, () -> x.append(packed));
            checks.due("at the front", fits ? (Object) 2 : Checks.ARGUMENT, () -> x.append(packed << 24));
            checks.due("behind another one", fits ? (Object) 4 : Checks.ARGUMENT, () -> x.append(97 << 24 | packed));
        }
    }

    private static void names() {
        checks.about("Text: A name is 1 to 10 letters a to z; it is found as for a text of a name alone");
        for (Reader reader : new Reader[] {ADD, RENAME}) {
            goesOn(reader, "", false, LETTERS);
            goesOn(reader, "a", true, LETTERS);
            goesOn(reader, "xz", true, LETTERS);
            goesOn(reader, "abcdefghi", true, LETTERS);
            goesOn(reader, "abcdefghij", true, "");
        }
    }

    private static void words() {
        checks.about("Text: filter, the words");
        goesOn(FILTER, "", true, "!" + STARTS);
        goesOn(FILTER, "!", false, STARTS);
        goesOn(FILTER, "done&", false, "!" + STARTS);
        goesOn(FILTER, "leaf&!", false, STARTS);
        for (String word : new String[] {"done", "dated", "leaf", "many"}) {
            for (String ahead : new String[] {"", "!", "many&", "~a&!"}) {
                for (int length = 1; length < word.length(); length++) {
                    String next = length == 1 && word.startsWith("d") ? "oa" : word.substring(length, length + 1);
                    goesOn(FILTER, ahead + word.substring(0, length), false, next);
                }
                goesOn(FILTER, ahead + word, true, "&");
            }
        }
    }

    private static void bounds() {
        checks.about("Text: filter, \">\" and \"<\" with a value of 1 to 3 digits without a leading zero");
        for (String start : new String[] {">", "<", "!>", "!<", "done&<", "done&>"}) {
            goesOn(FILTER, start, false, "-" + DIGITS);
            goesOn(FILTER, start + "-", false, DIGITS);
            for (String sign : new String[] {"", "-"}) {
                goesOn(FILTER, start + sign + "0", true, "&");
                goesOn(FILTER, start + sign + "1", true, "&" + DIGITS);
                goesOn(FILTER, start + sign + "9", true, "&" + DIGITS);
                goesOn(FILTER, start + sign + "10", true, "&" + DIGITS);
                goesOn(FILTER, start + sign + "99", true, "&" + DIGITS);
                goesOn(FILTER, start + sign + "100", true, "&");
                goesOn(FILTER, start + sign + "999", true, "&");
            }
        }
    }

    private static void lettersOfFilters() {
        checks.about("Text: filter, \"~\" with 1 to 10 letters");
        for (String start : new String[] {"~", "!~", "leaf&~"}) {
            goesOn(FILTER, start, false, LETTERS);
            goesOn(FILTER, start + "a", true, "&" + LETTERS);
            goesOn(FILTER, start + "abcdefghi", true, "&" + LETTERS);
            goesOn(FILTER, start + "abcdefghij", true, "&");
        }
    }

    private static void fifthCondition() {
        checks.about("Text: A filter has at most 5 conditions; an \"&\" behind the fifth one is an error at its place");
        goesOn(FILTER, "done&leaf&many&dated", true, "&");
        goesOn(FILTER, "done&leaf&many&dated&", false, "!" + STARTS);
        goesOn(FILTER, "done&leaf&many&dated&done", true, "");
        goesOn(FILTER, "done&leaf&many&dated&!many", true, "");
        goesOn(FILTER, "done&leaf&many&dated&>1", true, DIGITS);
        goesOn(FILTER, "done&leaf&many&dated&<-999", true, "");
        goesOn(FILTER, "done&leaf&many&dated&~a", true, LETTERS);
        goesOn(FILTER, "~a&~a&~a&~a&~abcdefghij", true, "");
        goesOn(FILTER, "!>-999&!<-999&!~abcdefghij&!dated&!~abcdefghij", true, "");
    }

    private static void newEntries() {
        checks.about("Text: outline, an entry with a name");
        goesOn(LOAD, "", false, LETTERS);
        for (String ahead : new String[] {"", "b;", "b;.", "b;c=1x;*0;", "b;.c;.*0;."}) {
            goesOn(LOAD, ahead + "a", true, LETTERS + "@=;");
            goesOn(LOAD, ahead + "x", true, LETTERS + "@=;");
            goesOn(LOAD, ahead + "abcdefghi", true, LETTERS + "@=;");
            goesOn(LOAD, ahead + "abcdefghix", true, "@=;");
        }
    }

    private static void days() {
        checks.about("Text: outline, a day of 1 to 4 digits without a leading zero");
        for (String start : new String[] {"a@", "abcdefghij@", "b;.a@"}) {
            goesOn(LOAD, start, false, DIGITS);
            goesOn(LOAD, start + "0", true, "=x;");
            goesOn(LOAD, start + "1", true, "=x;" + DIGITS);
            goesOn(LOAD, start + "99", true, "=x;" + DIGITS);
            goesOn(LOAD, start + "100", true, "=x;" + DIGITS);
            goesOn(LOAD, start + "1000", true, "=x;");
            goesOn(LOAD, start + "9999", true, "=x;");
        }
    }

    private static void values() {
        checks.about("Text: outline, a value; after a value there is no day");
        for (String start : new String[] {"a=", "abcdefghij=", "a@0=", "a@9999=", "b;.a@12="}) {
            goesOn(LOAD, start, false, "-" + DIGITS);
            goesOn(LOAD, start + "-", false, DIGITS);
            for (String sign : new String[] {"", "-"}) {
                goesOn(LOAD, start + sign + "0", true, "x;");
                goesOn(LOAD, start + sign + "1", true, "x;" + DIGITS);
                goesOn(LOAD, start + sign + "99", true, "x;" + DIGITS);
                goesOn(LOAD, start + sign + "100", true, "x;");
                goesOn(LOAD, start + sign + "999", true, "x;");
            }
        }
    }

    private static void marks() {
        checks.about("Text: \"x\" stands only behind a day or a value");
        String[] entries = {"a@0x", "a@12x", "a@9999x", "a=0x", "a=-1x", "a=999x", "a@1=2x", "b;.a=-0x"};
        for (String entry : entries) {
            goesOn(LOAD, entry, true, ";");
        }
        CloneOutliner x = new CloneOutliner();
        Checks.load(x, 0, "ax;x;xx=0;x@0x");
        checks.same("behind a letter it is one", "ax x xx x", Checks.name(x, 1) + " " + Checks.name(x, 2) + " "
            + Checks.name(x, 3) + " " + Checks.name(x, 4));
        checks.same("done", "0 0 0 1", x.item(1, 6) + " " + x.item(2, 6) + " " + x.item(3, 6) + " " + x.item(4, 6));
    }

    private static void levels() {
        checks.about("Text: The level is 0 for the first entry, and at most 1 more than that of the entry before");
        outcome(LOAD, ".a", 0);
        outcome(LOAD, "..a", 0);
        goesOn(LOAD, "a;", false, LETTERS + ".*");
        goesOn(LOAD, "a;.", false, LETTERS + "*");
        goesOn(LOAD, "a;b;", false, LETTERS + ".*");
        goesOn(LOAD, "a;b;.", false, LETTERS + "*");
        goesOn(LOAD, "a;.b;", false, LETTERS + ".*");
        goesOn(LOAD, "a;.b;.", false, LETTERS + ".*");
        goesOn(LOAD, "a;.b;..", false, LETTERS + "*");
        goesOn(LOAD, "a;.b;..c;...", false, LETTERS + "*");
        goesOn(LOAD, "a;.b;..c;d;", false, LETTERS + ".*");
        goesOn(LOAD, "a;.b;..c;d;.", false, LETTERS + "*");
        goesOn(LOAD, "a;.b;..c;.d;..", false, LETTERS + "*");
        outcome(LOAD, "a;.b;..c;...d;....e;.....f;......g;.......h;........i;.........j;..........k", -1);
        goesOn(LOAD, "a;.b;..c;...d;....e;.....f;......g;.......h;........i;.........", false, LETTERS + "*");
        outcome(LOAD, "a@1=2x;.b=1;..c", -1);
    }

    private static void levelsBehindClones() {
        checks.about("Text: at most that of the entry before if that one is a clone; a point too many is an error");
        goesOn(LOAD, "a;*0;", false, LETTERS + "*");
        goesOn(LOAD, "a;.b;*1;", false, LETTERS + "*");
        goesOn(LOAD, "a;.b;.*0;", false, LETTERS + ".*");
        goesOn(LOAD, "a;.b;.*0;.", false, LETTERS + "*");
        goesOn(LOAD, "a;.b;..*0;..", false, LETTERS + "*");
        goesOn(LOAD, "a;.b;..*0;.", false, LETTERS + ".*");
        goesOn(LOAD, "a;.b;.*0;.*1;.", false, LETTERS + "*");
        goesOn(LOAD, "a;.b;.*0;.c;..", false, LETTERS + "*");
        goesOn(LOAD, "a;b;*0;c;.", false, LETTERS + "*");
    }

    private static void cloneNumbers() {
        checks.about("Text: a number that is none of one before it is an error at its first digit");
        outcome(LOAD, "*", 0);
        outcome(LOAD, "*0", 0);
        outcome(LOAD, "*1", 0);
        goesOn(LOAD, "a;*", false, "0");
        goesOn(LOAD, "a;.*", false, "0");
        goesOn(LOAD, "a;*0", true, ";");
        goesOn(LOAD, "a;b;*", false, "01");
        goesOn(LOAD, "a;b;.*", false, "01");
        goesOn(LOAD, "a;*0;*", false, "01");
        goesOn(LOAD, "a;b;c;*", false, "012");
        goesOn(LOAD, "a;b;c;d;e;f;g;h;i;j;*", false, DIGITS);
        for (String text : new String[] {"a;*1", "a;*2", "a;*9", "a;*10", "a;*99", "a;*100", "a;*999", "a;*1000"}) {
            outcome(LOAD, text, 3);
            outcome(LOAD, text + ";b", 3);
        }
        outcome(LOAD, "a;*00", 4);
        outcome(LOAD, "a;*01", 4);
        outcome(LOAD, "a;b;c;*2", -1);
        outcome(LOAD, "a;b;c;*3", 7);
    }

    private static void cloneNumbersOfTwoDigits() {
        String ten = "a;b;c;d;e;f;g;h;i;j;";
        outcome(LOAD, ten + "*9", -1);
        outcome(LOAD, ten + "*10", 21);
        outcome(LOAD, ten + "k;.*10", -1);
        outcome(LOAD, ten + "k;*10", -1);
        outcome(LOAD, ten + "k;*11", 23);
        outcome(LOAD, ten + "k;l;*11", -1);
        outcome(LOAD, ten + "k;l;*12", 25);
        outcome(LOAD, ten + "k;*1", -1);
        outcome(LOAD, ten + "k;*10;", 26);
        outcome(LOAD, ten + "k;*1x", 24);
        outcome(LOAD, ten + "k;*10x", 25);
        outcome(LOAD, ten + "k;*10=1", 25);
        outcome(LOAD, "a;".repeat(36) + "b;*36", -1);
        outcome(LOAD, "a;".repeat(36) + "b;*37", 75);
    }

    private static void cloneNumbersAreTakenWhole() {
        checks.about("Details: A number behind \"*\" is taken with as many digits as a number has");
        for (char digit = '0'; digit <= '9'; digit++) {
            outcome(LOAD, "a;b;*1" + digit, 5);
            outcome(LOAD, "a;b;*1" + digit + digit, 5);
            outcome(LOAD, "a;b;*1" + digit + digit + digit, 5);
            outcome(LOAD, "a;b;*0" + digit, 6);
            outcome(LOAD, "a;b;c;d;e;f;g;h;i;j;k;*1" + digit, digit == '0' ? -1 : 23);
            outcome(LOAD, "a;b;c;d;e;f;g;h;i;j;k;*10" + digit, 23);
            outcome(LOAD, "a;b;c;d;e;f;g;h;i;j;k;*2" + digit, 23);
            outcome(LOAD, "a;b;c;d;e;f;g;h;i;j;k;*0" + digit, 24);
        }
    }

    private static void fullTexts() {
        checks.about("Text: texts as long as the buffer");
        CloneOutliner x = new CloneOutliner();
        String text = "abcdefghij@9999=-999x;abcdefghij@9999=-999x;abcdefghij@9999=-999x;abcdefghi@1=0x";
        checks.same("80 characters", 80, text.length());
        checks.due("four entries", 4, () -> Checks.load(x, 0, text));
        checks.same("the last one", "abcdefghi 1 0 1", Checks.name(x, 4) + " " + x.item(4, 5) + " " + x.item(4, 4) + " "
            + x.item(4, 6));
        outcome(LOAD, "a;".repeat(39) + "a", -1);
        outcome(LOAD, "a;".repeat(39) + "ab", -1);
        outcome(LOAD, "a;".repeat(40), 80);
        outcome(LOAD, "a;".repeat(39) + "a@", 80);
        outcome(LOAD, "a;".repeat(39) + "a?", 79);
        outcome(LOAD, "a;".repeat(39) + "a.", 79);
        outcome(LOAD, "a;".repeat(39) + ".", 79);
        outcome(LOAD, "a;".repeat(39) + ".*", 80);
        outcome(LOAD, "a;".repeat(39) + "*0", -1);
        outcome(LOAD, "a;".repeat(39) + "*9", -1);
        outcome(LOAD, "a".repeat(80), 10);
        outcome(ADD, "a".repeat(80), 10);
        outcome(FILTER, "~" + "a".repeat(79), 11);
        outcome(FILTER, "!~abcdefghij&!~abcdefghij&!~abcdefghij&!~abcdefghij&!~abcdefghij", -1);
        outcome(FILTER, "!~abcdefghij&!~abcdefghij&!~abcdefghij&!~abcdefghij&!~abcdefghij&!~abcdefghij&!~", 64);
    }

    private static void numbersOfFilters() {
        checks.about("Text: the numbers of a filter");
        CloneOutliner x = Checks.outlineOf("a=-12;b=12");
        checks.same("two digits, a sign", "a b", lines(x, ">-13"));
        checks.same("two digits, a sign", "b", lines(x, ">-12"));
        checks.same("two digits", "", lines(x, ">12"));
        checks.same("two digits", "b", lines(x, ">11"));
        x.setNumber(1, false, -345);
        x.setNumber(2, false, 345);
        checks.same("three digits, a sign", "a", lines(x, "<-344"));
        checks.same("three digits, a sign", "", lines(x, "<-345"));
        checks.same("three digits", "a b", lines(x, "<346"));
        checks.same("three digits", "a", lines(x, "<345"));
        checks.same("one digit", "b", lines(x, ">7"));
        checks.same("each condition has its own", "b", lines(x, ">344&<346&>-1&<999&>0"));
    }

    private static String lines(CloneOutliner x, String text) {
        Checks.filter(x, text);
        return Checks.paths(x);
    }

    private static void figuresOfEntries() {
        checks.about("Text: the numbers of an outline");
        int[] days = {0, 1, 9, 10, 99, 100, 999, 1000, 1234, 9999};
        for (int day : days) {
            CloneOutliner x = Checks.outlineOf("a@" + day);
            checks.same("the day " + day, day + " 0 0", x.item(1, 5) + " " + x.item(1, 4) + " " + x.item(1, 6));
        }
        int[] values = {0, 1, 9, 10, 99, 100, 123, 999, -1, -9, -10, -99, -100, -123, -999};
        for (int value : values) {
            CloneOutliner x = Checks.outlineOf("a=" + value);
            checks.same("the value " + value, "-1 " + value, x.item(1, 5) + " " + x.item(1, 4));
            CloneOutliner y = Checks.outlineOf("a@5=" + value + "x");
            checks.same("the value " + value, "5 " + value + " 1", y.item(1, 5) + " " + y.item(1, 4) + " "
                + y.item(1, 6));
        }
    }

    private static void minusZero() {
        checks.about("Details: -0 is 0");
        CloneOutliner x = Checks.outlineOf("a=-0;b=1");
        checks.due("the value", 0, () -> x.item(1, 4));
        checks.same("greater", "b", lines(x, ">-0"));
        checks.same("less", "", lines(x, "<-0"));
    }

    private static void parentsOfEntries() {
        checks.about("Text: An entry becomes the last child of the item of the latest entry whose level is less by 1");
        CloneOutliner x = Checks.outlineOf("z;.y");
        Checks.load(x, 1, "a;.b;..c;..d;.e;..f;g;.h");
        checks.same("the latest one", "z z/y z/a z/a/b z/a/b/c z/a/b/d z/a/e z/a/e/f z/g z/g/h", Checks.paths(x));
        Checks.load(x, 0, "k;.l;m");
        checks.same("the last children of the root", "1 11 13", Checks.related(x, 0, false));
        Checks.load(x, 2, "n");
        checks.same("below another item", "14", Checks.related(x, 2, false));
        Checks.load(x, 14, "p;q;.*0;r;.s");
        checks.same("behind a clone", "z/y/n/p z/y/n/q z/y/n/q/p z/y/n/r z/y/n/r/s", pathsBelow(x, "z/y/n/"));
    }

    private static String pathsBelow(CloneOutliner x, String start) {
        StringBuilder found = new StringBuilder();
        for (String path : Checks.paths(x).split(" ")) {
            found.append(path.startsWith(start) ? " " + path : "");
        }
        return found.toString().trim();
    }

    private static void clonesOfEntries() {
        checks.about("Text: a clone of the item of the entry with this number in the text, counted from 0");
        CloneOutliner x = Checks.outlineOf("z");
        checks.due("entries", 7, () -> Checks.load(x, 0, "a;b;.*0;c;.*2;d;.*1"));
        checks.same("a clone counts as an entry", "z a b b/a c c/a d d/b d/b/a", Checks.paths(x));
        checks.same("no item is new", "6 5 9", x.outline(0) + " " + x.outline(1) + " "
            + x.outline(2));
        x.setNumber(2, false, 9);
        checks.same("all agree", "9 9 9", x.item(3, 9) + " " + x.item(4, 9) + " " + x.item(5, 9));
    }

    private static void allOrNone() {
        checks.about("promise 26: all of them or none");
        CloneOutliner x = Checks.outlineOf("a");
        String before = Checks.all(x);
        checks.refused("the last one of many", "60 107 2", x, () -> Checks.load(x, 1, "b;c;d;e;f;g;h;*0"));
        checks.same("as it was", before, Checks.all(x));
        checks.due("all but that", 7, () -> Checks.load(x, 1, "b;c;d;e;f;g;h"));
        checks.due("numbers were not used", 8, () -> x.outline(1));
        checks.due("one change", 1, x::undo);
        checks.same("as it was", before, Checks.all(x));
    }

    private static void errorPositionIsKept() {
        checks.about("promise 27: of the last text that was malformed, whatever was read after it");
        CloneOutliner x = Checks.outlineOf("a");
        checks.due("none", Checks.STATE, x::errorPosition);
        String[] texts = {"ab?", "done&lea", "a;b;.", "?", "~a&~b&~c&~d&~e&", "a@12345"};
        Reader[] readers = {ADD, FILTER, LOAD, RENAME, FILTER, LOAD};
        int[] due = {2, 8, 5, 0, 14, 6};
        for (int number = 0; number < texts.length; number++) {
            Reader reader = readers[number];
            int position = due[number];
            Checks.type(x, texts[number]);
            checks.due("malformed", Checks.ARGUMENT, () -> reader.read(x));
            checks.due("its position", position, x::errorPosition);
            Checks.add(x, 0, 0, "n");
            Checks.filter(x, "leaf");
            x.filter();
            Checks.load(x, 1, "m");
            Checks.type(x, "k");
            x.rename(1);
            checks.refused("refused", "60 101 3", x, () -> Checks.load(x, 0, "a;.*0"));
            x.snapshot();
            x.undo();
            x.restore();
            checks.due("kept", position, x::errorPosition);
        }
        x.clear();
        checks.due("also when all is cleared", 6, x::errorPosition);
        checks.due("another object has none", Checks.STATE, () -> new CloneOutliner().errorPosition());
    }

    private static void consistency() {
        checks.about("promise 29");
        checks.due("a new object", true, () -> new CloneOutliner().isConsistent());
        CloneOutliner x = Checks.busy("abc");
        checks.due("after many calls", true, x::isConsistent);
        x.detach(0, 0);
        checks.due("with removed items", true, x::isConsistent);
        x.undo();
        x.undo();
        checks.due("after undo", true, x::isConsistent);
        x.restore();
        checks.due("after a restore", true, x::isConsistent);
        x.clear();
        checks.due("after clear", true, x::isConsistent);
        CloneOutliner y = new CloneOutliner();
        for (int item = 0; item < 60; item++) {
            Checks.add(y, item, 0, "n");
        }
        checks.due("a chain of 60", true, y::isConsistent);
        checks.due("300 places", true, () -> Checks.withPlaces(300).isConsistent());
    }
}
