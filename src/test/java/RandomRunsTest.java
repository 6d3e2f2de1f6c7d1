import java.lang.reflect.InvocationTargetException;
import java.lang.reflect.Method;
import java.util.ArrayList;
import java.util.HashMap;
import java.util.List;
import java.util.Map;
import java.util.Random;

/** Long runs of calls, drawn from fixed seeds, on the program and on the model; every answer must agree. */
public final class RandomRunsTest {
    private static final int CALLS = 500;
    /** Without these, the runs would not be worth much. */
    private static final String[] NEEDED = {"reason 1", "reason 2", "reason 3", "reason 4", "reason 1 for 30",
        "reason 4 for 30", "60 added", "300 places"};
    private static final String[] NAMES = {"a", "b", "x", "ab", "abc", "xx", "done", "leaf", "abcdefghij"};

    private final Map<String, Method> programMethods = new HashMap<>();
    private final Map<String, Method> modelMethods = new HashMap<>();
    private final Map<String, Integer> outcomes = new HashMap<>();
    private final List<String> log = new ArrayList<>();
    private CloneOutliner program;
    private OutlineModel model;
    private Random random;
    private boolean differs;

    public static void main(String[] args) {
        int runs = args.length > 0 ? Integer.parseInt(args[0]) : 160;
        int first = args.length > 1 ? Integer.parseInt(args[1]) : 0;
        RandomRunsTest test = new RandomRunsTest();
        int wrong = 0;
        for (int seed = first; seed < first + runs; seed++) {
            if (!test.agrees(seed)) {
                wrong++;
            }
        }
        for (String needed : NEEDED) {
            if (!test.outcomes.containsKey(needed)) {
                System.out.println("no run came to: " + needed);
                wrong++;
            }
        }
        System.out.println("RandomRunsTest: " + runs + " runs, " + wrong + " wrong");
        if (args.length > 2) {
            test.outcomes.entrySet().stream().sorted(Map.Entry.comparingByKey()).forEach(System.out::println);
        }
        if (wrong != 0) {
            System.exit(1);
        }
    }

    private RandomRunsTest() {
        for (Method method : CloneOutliner.class.getDeclaredMethods()) {
            if (method.getModifiers() == java.lang.reflect.Modifier.PUBLIC) {
                programMethods.put(method.getName(), method);
            }
        }
        for (Method method : OutlineModel.class.getDeclaredMethods()) {
            if (method.getModifiers() == java.lang.reflect.Modifier.PUBLIC) {
                modelMethods.put(method.getName(), method);
            }
        }
    }

    private boolean agrees(int seed) {
        random = new Random(seed);
        program = new CloneOutliner();
        model = new OutlineModel();
        differs = false;
        log.clear();
        int style = seed % 6;
        for (int number = 0; number < CALLS && !differs; number++) {
            step(style);
            if (number % 50 == 49 && !differs) {
                lookAtAll();
            }
        }
        if (differs) {
            System.out.println("seed " + seed + ":");
            for (String row : log.subList(Math.max(0, log.size() - 60), log.size())) {
                System.out.println("  " + row);
            }
        }
        return !differs;
    }

    private void step(int style) {
        int draw = random.nextInt(100);
        if (style == 1 && draw < 60) {
            growClones();
        } else if (style == 2 && draw < 50) {
            growItems();
        } else if (style == 3 && draw < 60) {
            tryText();
        } else if (style == 4 && draw < 60) {
            crowd();
        } else if (style == 5 && draw < 70) {
            rearrange();
        } else {
            anyCall();
        }
    }

    private void growItems() {
        type(name());
        int parent = item();
        call("add", parent, childIndex(parent, 1));
    }

    private void growClones() {
        if (random.nextInt(3) == 0) {
            growItems();
        } else {
            int parent = item();
            call("clone", item(), parent, childIndex(parent, 1));
        }
    }

    /** Few parents with many children, so that one of them is full soon. */
    private void crowd() {
        int parent = random.nextInt(3);
        switch (random.nextInt(6)) {
            case 0: call("clone", item(), parent, childIndex(parent, 1)); break;
            case 1: moveBlock(random.nextInt(3)); break;
            case 2: call("indent", random.nextInt(4)); break;
            case 3: call("outdent", line()); break;
            default: type(name()); call("add", parent, childIndex(parent, 1)); break;
        }
    }

    private void rearrange() {
        switch (random.nextInt(6)) {
            case 0: moveBlock(family()); break;
            case 1: call("indent", line()); break;
            case 2: call("outdent", line()); break;
            case 3: call("undo"); break;
            case 4: growClones(); break;
            default: growItems(); break;
        }
    }

    private void tryText() {
        if (random.nextInt(2) == 0) {
            type(spoil(filterText()));
            call("filter");
        } else {
            type(spoil(outlineText()));
            call("load", item());
        }
        call("errorPosition");
    }

    private void anyCall() {
        int parent = item();
        int line = line();
        switch (random.nextInt(26)) {
            case 0: call("append", random.nextInt(3) == 0 ? random.nextInt() : pack("ab", 0)); break;
            case 1: type(spoil(name())); call("add", parent, childIndex(parent, 1)); break;
            case 2: case 3: call("clone", item(), parent, childIndex(parent, 1)); break;
            case 4: call("detach", parent, childIndex(parent, 0)); break;
            case 5: case 6: case 7: moveBlock(family()); break;
            case 8: case 9: call("indent", line); break;
            case 10: case 11: call("outdent", line); break;
            case 12: type(spoil(name())); call("rename", parent); break;
            case 13: call("setNumber", parent, true, mostly(random.nextInt(40) - 1, edge(-2, 10000))); break;
            case 14: call("setNumber", parent, false, mostly(random.nextInt(40) - 20, edge(-1000, 1000))); break;
            case 15: case 16: call("setFlag", parent, random.nextBoolean(), random.nextInt(3) > 0); break;
            case 17: call("hoist", parent); break;
            case 18: call("unhoist"); break;
            case 19: type(spoil(filterText())); call("filter"); break;
            case 20: type(outlineText()); call("load", parent); break;
            case 21: call("undo"); break;
            case 22: call(random.nextInt(3) == 0 ? "restore" : "snapshot"); break;
            case 23: call(random.nextInt(12) == 0 ? "clear" : "filter"); break;
            case 24: ask(parent, line); break;
            default: call("refusal", random.nextInt(5) - 1); break;
        }
    }

    private void ask(int item, int line) {
        call("item", item, random.nextInt(18) - 1);
        call("related", item, random.nextInt(5) - 1, random.nextBoolean());
        call("letter", item, random.nextInt(5) - 1);
        call("isBelow", item, item());
        call("outline", random.nextInt(14) - 1);
        call("line", line, random.nextInt(9) - 1);
        call("path", line, random.nextInt(8) - 1);
        call("lineOf", item);
        call("doneShare", item);
        call("meanValue", item);
    }

    private void moveBlock(int parent) {
        int first = childIndex(parent, 0);
        int last = childIndex(parent, 0);
        if (last < first && random.nextInt(5) > 0) {
            int exchanged = first;
            first = last;
            last = exchanged;
        }
        int to = random.nextInt(4) == 0 ? parent : item();
        int index = random.nextInt(3) > 0 ? 0 : childIndex(to, 1);
        call("moveBlock", parent, first, last, to, index);
    }

    /** Asks for everything that can be asked, so that a hidden difference shows soon. */
    private void lookAtAll() {
        for (int what = -1; what < 12; what++) {
            call("outline", what);
        }
        for (int item = -1; item <= 62; item++) {
            for (int what = -1; what < 16; what++) {
                call("item", item, what);
            }
            for (int index = -1; index < 13; index++) {
                call("related", item, index, true);
                call("related", item, index, false);
                call("letter", item, index);
            }
            call("isBelow", item, random.nextInt(62));
            call("lineOf", item);
            call("doneShare", item);
            call("meanValue", item);
        }
        int lines = model.outline(3);
        for (int line = -1; line <= lines; line += 1 + random.nextInt(1 + lines / 20)) {
            for (int what = -1; what < 7; what++) {
                call("line", line, what);
            }
            for (int index = -1; index < 40; index++) {
                call("path", line, index);
            }
        }
        call("refusal", 0);
        call("refusal", 1);
        call("refusal", 2);
        call("errorPosition");
        call("isConsistent");
        note("60 added", model.outline(1) == 60);
        note("300 places", model.outline(2) == 300);
    }

    private void note(String what, boolean isSo) {
        if (isSo) {
            outcomes.merge(what, 1, Integer::sum);
        }
    }

    private int item() {
        int count = model.outline(1);
        int drawn = random.nextInt(25) == 0 ? edge(-1, 61) : random.nextInt(count + 1);
        return isThere(drawn) || random.nextInt(10) == 0 ? drawn : random.nextInt(count + 1);
    }

    private boolean isThere(int item) {
        try {
            return model.item(item, 1) >= 0;
        } catch (RuntimeException none) {
            return false;
        }
    }

    /** An item that has children, if one is found soon. */
    private int family() {
        int drawn = item();
        for (int tries = 0; tries < 5 && (!isThere(drawn) || model.item(drawn, 1) == 0); tries++) {
            drawn = item();
        }
        return drawn;
    }

    private int line() {
        int count = model.outline(3);
        return count == 0 || random.nextInt(25) == 0 ? edge(-1, count) : random.nextInt(count);
    }

    private int childIndex(int parent, int more) {
        int count = 0;
        try {
            count = model.item(parent, 1);
        } catch (RuntimeException none) {
            count = 3;
        }
        int bound = count + more;
        return bound == 0 || random.nextInt(25) == 0 ? edge(-1, bound) : random.nextInt(bound);
    }

    private int mostly(int usual, int other) {
        return random.nextInt(4) > 0 ? usual : other;
    }

    private int edge(int low, int high) {
        switch (random.nextInt(8)) {
            case 0: return Integer.MIN_VALUE;
            case 1: return Integer.MAX_VALUE;
            case 2: return high + 1;
            case 3: case 4: return low;
            case 5: return low + 1;
            case 6: return high - 1;
            default: return high;
        }
    }

    private String name() {
        return NAMES[random.nextInt(NAMES.length)];
    }

    private String filterText() {
        StringBuilder text = new StringBuilder();
        int count = random.nextInt(20) == 0 ? 6 : 1 + random.nextInt(3);
        for (int number = 0; number < count; number++) {
            text.append(number > 0 ? "&" : "").append(random.nextInt(3) == 0 ? "!" : "");
            String[] all = {"done", "dated", "leaf", "many", ">" + value(), "<" + value(), "~" + name()};
            text.append(all[random.nextInt(all.length)]);
        }
        return text.toString();
    }

    private String value() {
        return (random.nextBoolean() ? "-" : "") + (random.nextInt(4) > 0 ? random.nextInt(30) : random.nextInt(1100));
    }

    private String outlineText() {
        StringBuilder text = new StringBuilder();
        int count = 1 + random.nextInt(8);
        int deepest = 0;
        for (int number = 0; number < count; number++) {
            int level = random.nextInt(25) == 0 ? deepest + 1 : random.nextInt(deepest + 1);
            boolean isClone = number > 0 && random.nextInt(4) == 0;
            text.append(number > 0 ? ";" : "").append(".".repeat(level));
            text.append(isClone ? "*" + random.nextInt(random.nextInt(20) == 0 ? 1200 : number) : entry());
            deepest = isClone ? level : level + 1;
        }
        return text.toString();
    }

    private String entry() {
        StringBuilder text = new StringBuilder(name());
        if (random.nextInt(3) == 0) {
            text.append('@').append(random.nextInt(random.nextInt(5) == 0 ? 11000 : 30));
        }
        if (random.nextInt(3) == 0) {
            text.append('=').append(value());
        }
        return text.append(random.nextInt(4) == 0 ? "x" : "").toString();
    }

    /** Now and then changes, takes out or puts in a character. */
    private String spoil(String text) {
        if (random.nextInt(3) > 0) {
            return text;
        }
        String signs = "ax.;*@=-!&<>~01239done leafmany/A";
        String sign = "" + signs.charAt(random.nextInt(signs.length()));
        int at = random.nextInt(text.length() + 1);
        switch (random.nextInt(4)) {
            case 0: return text.substring(0, at) + sign + text.substring(at);
            case 1: return text.substring(0, at) + (at < text.length() ? sign + text.substring(at + 1) : sign);
            case 2: return text.substring(0, at) + (at < text.length() ? text.substring(at + 1) : "");
            default: return text.substring(0, at);
        }
    }

    private void type(String text) {
        for (int at = 0; at < text.length(); at += 4) {
            call("append", pack(text, at));
        }
    }

    private static int pack(String text, int at) {
        int packed = 0;
        for (int index = at; index < at + 4; index++) {
            packed = (packed << 8) | (index < text.length() ? text.charAt(index) : 0);
        }
        return packed;
    }

    private void call(String name, Object... arguments) {
        if (differs) {
            return;
        }
        String due = outcome(modelMethods.get(name), model, arguments);
        String got = outcome(programMethods.get(name), program, arguments);
        StringBuilder row = new StringBuilder(name).append(List.of(arguments)).append(" -> ").append(got);
        if (!due.equals(got)) {
            differs = true;
            row.append(", due is ").append(due);
        }
        log.add(row.toString());
        outcomes.merge(name + (due.contains("Exception") ? " " + due : ""), 1, Integer::sum);
        if (due.endsWith("UnsupportedOperationException") && !differs) {
            int last = model.refusal(0) % 30 == 0 && model.refusal(0) != 0 ? 2 : 1;
            note("reason " + model.refusal(last), true);
            note("reason " + model.refusal(last) + " for " + model.refusal(0), true);
        }
    }

    private static String outcome(Method method, Object on, Object[] arguments) {
        try {
            return String.valueOf(method.invoke(on, arguments));
        } catch (InvocationTargetException thrown) {
            return thrown.getCause().getClass().getName();
        } catch (IllegalAccessException impossible) {
            throw new AssertionError(impossible);
        }
    }
}
