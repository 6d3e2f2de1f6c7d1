import java.util.NoSuchElementException;

/** What the tests of the promises share: checks that count, short ways to call, and texts of what an object shows. */
final class Checks {
    static final Class<?> NO_SUCH = NoSuchElementException.class;
    static final Class<?> INDEX = IndexOutOfBoundsException.class;
    static final Class<?> ARGUMENT = IllegalArgumentException.class;
    static final Class<?> STATE = IllegalStateException.class;
    static final Class<?> REFUSED = UnsupportedOperationException.class;

    private int passed = 0;
    private int failed = 0;
    private String part = "";

    interface Call {
        Object run();
    }

    interface Builder {
        CloneOutliner build();
    }

    interface Deed {
        Object on(CloneOutliner x);
    }

    /** No item of any outline, the edges of an int among them. */
    static int[] noItems(CloneOutliner x) {
        int next = x.outline(1) + 1;
        return new int[] {-1, next, 61, 62, 63, 64, 65, 128, -64, Integer.MIN_VALUE, Integer.MAX_VALUE};
    }

    /** No index where there are so many. */
    static int[] noIndexes(int count) {
        return new int[] {-1, count, count + 1, 64, -64, Integer.MIN_VALUE, Integer.MAX_VALUE};
    }

    /** Says which promise or which sentence the next checks are about. */
    void about(String promise) {
        part = promise;
    }

    /** What is due is an answer or the class of an exception. */
    void due(String what, Object due, Call call) {
        Object got;
        try {
            got = call.run();
        } catch (RuntimeException thrown) {
            got = thrown.getClass();
        }
        same(what, due, got);
    }

    void same(String what, Object due, Object got) {
        if (due.equals(got)) {
            passed++;
        } else {
            failed++;
            System.out.println(part + ", " + what + ": due is " + due + ", got " + got);
        }
    }

    /** The call is refused with this chain. */
    void refused(String what, String chain, CloneOutliner x, Call call) {
        due(what, REFUSED, call);
        due("chain when " + what, chain, () -> chain(x));
    }

    /** The call throws and leaves all as it was, also what can be undone or restored. */
    void leavesAll(String what, Class<?> due, Builder builder, Deed deed) {
        leavesState(what, due, textState(builder.build()), builder, deed);
    }

    /** The call throws and leaves all as it was but the buffer, the error position and the refusal. */
    void leavesState(String what, Class<?> due, String texts, Builder builder, Deed deed) {
        CloneOutliner x = builder.build();
        due(what, due, () -> deed.on(x));
        same("texts after " + what, texts, textState(x));
        same("state after " + what, state(builder.build()), state(x));
    }

    void end(String test) {
        System.out.println(test + ": " + passed + " checks held, " + failed + " did not");
        if (failed != 0 || passed == 0) {
            System.exit(1);
        }
    }

    static void type(CloneOutliner x, String text) {
        for (int index = 0; index < text.length(); index++) {
            x.append(text.charAt(index));
        }
    }

    static int load(CloneOutliner x, int item, String text) {
        type(x, text);
        return x.load(item);
    }

    static int filter(CloneOutliner x, String text) {
        type(x, text);
        return x.filter();
    }

    static int add(CloneOutliner x, int parent, int index, String name) {
        type(x, name);
        return x.add(parent, index);
    }

    static CloneOutliner outlineOf(String text) {
        CloneOutliner x = new CloneOutliner();
        load(x, 0, text);
        return x;
    }

    /** Adds children at the end until there are as many. */
    static void fill(CloneOutliner x, int parent, int children) {
        for (int count = x.item(parent, 1); count < children; count++) {
            add(x, parent, count, "n");
        }
    }

    /**
     * An outline with some places, 297 at least: 1 is at one place, 2 at two, and behind the five children of the root
     * that make up 297, there is a leaf for each place more.
     */
    static CloneOutliner withPlaces(int places) {
        CloneOutliner x = outlineOf("a;.b;*1");
        load(x, 0, "e;.d;..c;...b;....a;.....m;....*5;...*4;...*5;..*3;..*4;..*5;.*2;.*3;.*4;.*5");
        fill(x, 8, 12);
        x.clone(5, 0, 3);
        x.clone(7, 0, 4);
        fill(x, 0, 5 + places - 297);
        return x;
    }

    /**
     * An outline where there is something of everything: a hoist, a filter, changes, a snapshot, an error at 0, the
     * refusal 20 3, and the buffer. Its lines are "b" and "b/c", which are 2 and 3; 4 is hoisted.
     */
    static CloneOutliner busy(String buffer) {
        CloneOutliner x = outlineOf("a@1=2x;.b;..c;d;.*1;e;f");
        x.snapshot();
        x.setNumber(3, false, 5);
        x.setFlag(2, true, true);
        type(x, "?");
        try {
            x.filter();
        } catch (IllegalArgumentException malformed) {
            // The error position is then there.
        }
        try {
            x.clone(1, 2, 0);
        } catch (UnsupportedOperationException refused) {
            // The chain is then there.
        }
        x.hoist(4);
        filter(x, "!~zz");
        type(x, buffer);
        return x;
    }

    static String outlineNumbers(CloneOutliner x) {
        StringBuilder text = new StringBuilder();
        for (int what = 0; what <= 10; what++) {
            text.append(what > 0 ? " " : "").append(x.outline(what));
        }
        return text.toString();
    }

    static String itemNumbers(CloneOutliner x, int item) {
        StringBuilder text = new StringBuilder();
        for (int what = 0; what <= 14; what++) {
            text.append(what > 0 ? " " : "").append(x.item(item, what));
        }
        return text.toString();
    }

    static String name(CloneOutliner x, int item) {
        StringBuilder text = new StringBuilder();
        for (int index = 0; index < x.item(item, 3); index++) {
            text.append(x.letter(item, index));
        }
        return text.toString();
    }

    static String path(CloneOutliner x, int line) {
        StringBuilder text = new StringBuilder();
        for (int index = 0; index < x.line(line, 4); index++) {
            text.append(x.path(line, index));
        }
        return text.toString();
    }

    /** The paths of all lines. */
    static String paths(CloneOutliner x) {
        StringBuilder text = new StringBuilder();
        for (int line = 0; line < x.outline(3); line++) {
            text.append(line > 0 ? " " : "").append(path(x, line));
        }
        return text.toString();
    }

    static String related(CloneOutliner x, int item, boolean isParent) {
        StringBuilder text = new StringBuilder();
        for (int index = 0; index < x.item(item, isParent ? 0 : 1); index++) {
            text.append(index > 0 ? " " : "").append(x.related(item, index, isParent));
        }
        return text.toString();
    }

    static String chain(CloneOutliner x) {
        StringBuilder text = new StringBuilder().append(x.refusal(0));
        for (int index = 1; index < 9; index++) {
            try {
                text.append(' ').append(x.refusal(index));
            } catch (IndexOutOfBoundsException end) {
                return text.toString().trim();
            }
        }
        return text.toString();
    }

    /** All that changes can change. */
    static String contents(CloneOutliner x) {
        StringBuilder text = new StringBuilder();
        text.append(x.outline(0)).append(' ').append(x.outline(1)).append('\n');
        for (int item = 0; item <= 60; item++) {
            try {
                text.append(item).append(": ").append(itemNumbers(x, item));
                text.append(" [").append(related(x, item, false)).append("] ");
                text.append(item == 0 ? "" : name(x, item)).append('\n');
            } catch (NoSuchElementException none) {
                text.append("none\n");
            }
        }
        return text.toString();
    }

    /** The length of the buffer, the error position and the chain. */
    static String textState(CloneOutliner x) {
        StringBuilder text = new StringBuilder().append(x.outline(8));
        try {
            text.append(" at ").append(x.errorPosition());
        } catch (IllegalStateException none) {
            text.append(" no error");
        }
        try {
            String numbers = chain(x);
            text.append(", ").append(numbers);
        } catch (IllegalStateException none) {
            text.append(", no refusal");
        }
        return text.toString();
    }

    /** All the rest; unhoists, undoes and restores whatever there is, so that the object is used up then. */
    static String state(CloneOutliner x) {
        StringBuilder text = new StringBuilder().append(contents(x)).append(paths(x));
        for (int what = 0; what <= 10; what++) {
            text.append(what == 8 ? "" : " " + x.outline(what));
        }
        for (int line = 0; line < x.outline(3); line++) {
            text.append(x.line(line, 5));
        }
        for (int hoists = x.outline(5); hoists > 0; hoists--) {
            text.append(" hoist ").append(x.unhoist());
        }
        for (int changes = x.outline(9); changes > 0; changes--) {
            text.append("\nundo ").append(x.undo()).append('\n').append(contents(x));
        }
        try {
            text.append("restore ").append(x.restore()).append(contents(x));
        } catch (IllegalStateException none) {
            text.append("no snapshot");
        }
        return text.toString();
    }

    /** All that can be seen but the error position and the refusal. */
    static String all(CloneOutliner x) {
        return contents(x) + outlineNumbers(x) + "\n" + paths(x);
    }
}
