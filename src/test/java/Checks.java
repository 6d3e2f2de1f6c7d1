import java.util.NoSuchElementException;

/** What the tests of the promises share: checks that count, short ways to call, and texts of what an object shows. */
final class Checks {
    static final Class<?> NO_SUCH = NoSuchElementException.class;
    static final Class<?> INDEX = IndexOutOfBoundsException.class;
    static final Class<?> ARGUMENT = IllegalArgumentException.class;
    static final Class<?> STATE = IllegalStateException.class;
    static final Class<?> REFUSED = UnsupportedOperationException.class;

    private int passed = 0;
    private int failed = 0;
    private String part = "";

    interface Call {
        Object run();
    }

    /** Says which promise the next checks are about. */
    void about(String promise) {
        part = promise;
    }

    /** What is due is an answer or the class of an exception. */
    void due(String what, Object due, Call call) {
        Object got;
        try {
            got = call.run();
        } catch (RuntimeException thrown) {
            got = thrown.getClass();
        }
        same(what, due, got);
    }

    void same(String what, Object due, Object got) {
        if (due.equals(got)) {
            passed++;
        } else {
            failed++;
            System.out.println(part + ", " + what + ": due is " + due + ", got " + got);
        }
    }

    void end(String test) {
        System.out.println(test + ": " + passed + " checks held, " + failed + " did not");
        if (failed != 0 || passed == 0) {
            System.exit(1);
        }
    }

    static void type(CloneOutliner x, String text) {
        for (int index = 0; index < text.length(); index++) {
            x.append(text.charAt(index));
        }
    }

    static int load(CloneOutliner x, int item, String text) {
        type(x, text);
        return x.load(item);
    }

    static int filter(CloneOutliner x, String text) {
        type(x, text);
        return x.filter();
    }

    static int add(CloneOutliner x, int parent, int index, String name) {
        type(x, name);
        return x.add(parent, index);
    }

    static CloneOutliner outlineOf(String text) {
        CloneOutliner x = new CloneOutliner();
        load(x, 0, text);
        return x;
    }

    /** Adds children at the end until there are as many. */
    static void fill(CloneOutliner x, int parent, int children) {
        for (int count = x.item(parent, 1); count < children; count++) {
            add(x, parent, count, "n");
        }
    }

    /**
     * An outline with some places, 297 at least: 1 is at one place, 2 at two, and behind the five children of the root
     * that make up 297, there is a leaf for each place more.
     */
    static CloneOutliner withPlaces(int places) {
        CloneOutliner x = outlineOf("a;.b;*1");
        load(x, 0, "e;.d;..c;...b;....a;.....m;....*5;...*4;...*5;..*3;..*4;..*5;.*2;.*3;.*4;.*5");
        fill(x, 8, 12);
        x.clone(5, 0, 3);
        x.clone(7, 0, 4);
        fill(x, 0, 5 + places - 297);
        return x;
    }

    static String outlineNumbers(CloneOutliner x) {
        StringBuilder text = new StringBuilder();
        for (int what = 0; what <= 10; what++) {
            text.append(what > 0 ? " " : "").append(x.outline(what));
        }
        return text.toString();
    }

    static String itemNumbers(CloneOutliner x, int item) {
        StringBuilder text = new StringBuilder();
        for (int what = 0; what <= 14; what++) {
            text.append(what > 0 ? " " : "").append(x.item(item, what));
        }
        return text.toString();
    }

    static String name(CloneOutliner x, int item) {
        StringBuilder text = new StringBuilder();
        for (int index = 0; index < x.item(item, 3); index++) {
            text.append(x.letter(item, index));
        }
        return text.toString();
    }

    static String path(CloneOutliner x, int line) {
        StringBuilder text = new StringBuilder();
        for (int index = 0; index < x.line(line, 4); index++) {
            text.append(x.path(line, index));
        }
        return text.toString();
    }

    /** The paths of all lines. */
    static String paths(CloneOutliner x) {
        StringBuilder text = new StringBuilder();
        for (int line = 0; line < x.outline(3); line++) {
            text.append(line > 0 ? " " : "").append(path(x, line));
        }
        return text.toString();
    }

    static String related(CloneOutliner x, int item, boolean isParent) {
        StringBuilder text = new StringBuilder();
        for (int index = 0; index < x.item(item, isParent ? 0 : 1); index++) {
            text.append(index > 0 ? " " : "").append(x.related(item, index, isParent));
        }
        return text.toString();
    }

    static String chain(CloneOutliner x) {
        StringBuilder text = new StringBuilder().append(x.refusal(0));
        for (int index = 1; index < 9; index++) {
            try {
                text.append(' ').append(x.refusal(index));
            } catch (IndexOutOfBoundsException end) {
                return text.toString().trim();
            }
        }
        return text.toString();
    }

    /** All that changes can change. */
    static String contents(CloneOutliner x) {
        StringBuilder text = new StringBuilder();
        text.append(x.outline(0)).append(' ').append(x.outline(1)).append('\n');
        for (int item = 0; item <= 60; item++) {
            try {
                text.append(item).append(": ").append(itemNumbers(x, item));
                text.append(" [").append(related(x, item, false)).append("] ");
                text.append(item == 0 ? "" : name(x, item)).append('\n');
            } catch (NoSuchElementException none) {
                text.append("none\n");
            }
        }
        return text.toString();
    }

    /** All that can be seen but the error position and the refusal. */
    static String all(CloneOutliner x) {
        return contents(x) + outlineNumbers(x) + "\n" + paths(x);
    }
}
