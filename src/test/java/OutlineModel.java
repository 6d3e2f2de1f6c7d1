import java.util.ArrayDeque;
import java.util.ArrayList;
import java.util.Deque;
import java.util.HashSet;
import java.util.List;
import java.util.Map;
import java.util.NoSuchElementException;
import java.util.Set;
import java.util.TreeMap;
import java.util.TreeSet;
import java.util.regex.Matcher;
import java.util.regex.Pattern;

/**
 * The document once more, in the slowest and plainest way: ways are walked one by one, texts are matched by patterns,
 * and a refused change is taken back by throwing a copy away. RandomRunsTest compares the program with it.
 */
public final class OutlineModel {
    private static final String NUMBER = "(?:0|[1-9][0-9]{0,2})";
    private static final String DAY = "(?:0|[1-9][0-9]{0,3})";
    private static final String VALUE = "-?" + NUMBER;
    private static final String NAME = "[a-z]{1,10}";
    private static final String CONDITION = "!?(?:done|dated|leaf|many|[<>]" + VALUE + "|~" + NAME + ")";
    private static final String FIGURES = "(?:@" + DAY + "(?:=" + VALUE + ")?x?|=" + VALUE + "x?)?";
    private static final String ENTRY = "\\.*(?:" + NAME + FIGURES + "|\\*" + NUMBER + ")";
    private static final Pattern NAME_TEXT = Pattern.compile(NAME);
    private static final Pattern FILTER_TEXT = Pattern.compile(CONDITION + "(?:&" + CONDITION + "){0,4}");
    private static final Pattern OUTLINE_TEXT = Pattern.compile(ENTRY + "(?:;" + ENTRY + ")*");
    private static final Pattern ENTRY_PARTS = Pattern.compile(
        "(\\.*)(?:([a-z]+)(?:@([0-9]+))?(?:=(-?[0-9]+))?(x?)|\\*([0-9]+))");

    private static final class Item {
        String name = "";
        int value = 0;
        int day = -1;
        boolean done = false;
        boolean folded = false;
        List<Integer> children = new ArrayList<>();

        Item copy() {
            Item other = new Item();
            other.name = name;
            other.value = value;
            other.day = day;
            other.done = done;
            other.folded = folded;
            other.children = new ArrayList<>(children);
            return other;
        }
    }

    private static final class State {
        final TreeMap<Integer, Item> items = new TreeMap<>();
        int added = 0;

        State copy() {
            State other = new State();
            for (Map.Entry<Integer, Item> entry : items.entrySet()) {
                other.items.put(entry.getKey(), entry.getValue().copy());
            }
            other.added = added;
            return other;
        }
    }

    private State state = fresh();
    private State taken = null;
    private final Deque<State> before = new ArrayDeque<>();
    private final List<Integer> hoisted = new ArrayList<>();
    private String buffer = "";
    private List<String> conditions = new ArrayList<>();
    private int error = -1;
    private List<Integer> chain = new ArrayList<>();
    /** A state that has become the present one is never changed, so that its ways and lines are found once. */
    private State waysOf = null;
    private List<List<Integer>> presentWays = null;
    private State linesOf = null;
    private List<Integer> linesHoisted = null;
    private List<String> linesConditions = null;
    private List<List<Integer>> presentLines = null;

    public OutlineModel() {
    }

    private static State fresh() {
        State made = new State();
        made.items.put(0, new Item());
        return made;
    }

    public int clear() {
        int count = state.items.size();
        state = fresh();
        before.clear();
        hoisted.clear();
        conditions = new ArrayList<>();
        return count;
    }

    public int append(int packed) {
        String more = "";
        for (int number = 3; number >= 0; number--) {
            int code = (packed >> (8 * number)) & 0xff;
            if (code == 0) {
                continue;
            }
            if (code < 32 || code >= 127) {
                throw new IllegalArgumentException();
            }
            more += (char) code;
        }
        if ((buffer + more).length() > 80) {
            throw new IllegalStateException();
        }
        buffer += more;
        return buffer.length();
    }

    public int add(int parent, int index) {
        mustHave(parent);
        mustBeGap(index, state.items.get(parent).children.size());
        String name = readName();
        State next = state.copy();
        int reason = reason(next, -1, parent);
        if (reason != 0) {
            refuse(List.of(10, reason));
        }
        int item = make(next, name);
        next.items.get(parent).children.add(index, item);
        change(next);
        return item;
    }

    public int clone(int item, int parent, int index) {
        mustHave(item);
        mustHave(parent);
        mustNotBeRoot(item);
        mustBeGap(index, state.items.get(parent).children.size());
        State next = state.copy();
        int reason = reason(next, item, parent);
        if (reason != 0) {
            refuse(List.of(20, reason));
        }
        next.items.get(parent).children.add(index, item);
        change(next);
        return places(item);
    }

    public int detach(int parent, int index) {
        mustHave(parent);
        mustBeIndex(index, state.items.get(parent).children.size());
        State next = state.copy();
        next.items.get(parent).children.remove(index);
        Set<Integer> reached = family(next, 0);
        int count = next.items.size();
        next.items.keySet().retainAll(reached);
        change(next);
        return count - state.items.size();
    }

    public int moveBlock(int parent, int first, int last, int to, int index) {
        mustHave(parent);
        mustHave(to);
        int count = state.items.get(parent).children.size();
        if (first < 0 || last < first || last >= count) {
            throw new IndexOutOfBoundsException();
        }
        State next = state.copy();
        List<Integer> moved = new ArrayList<>(next.items.get(parent).children.subList(first, last + 1));
        next.items.get(parent).children.subList(first, last + 1).clear();
        mustBeGap(index, next.items.get(to).children.size());
        for (int number = 0; number < moved.size(); number++) {
            int reason = reason(next, moved.get(number), to);
            if (reason != 0) {
                refuse(List.of(30, 100 + number, reason));
            }
            next.items.get(to).children.add(index + number, moved.get(number));
        }
        change(next);
        return moved.size();
    }

    public int indent(int line) {
        List<Integer> way = wayOf(line);
        int item = way.get(way.size() - 1);
        int parent = way.get(way.size() - 2);
        int index = state.items.get(parent).children.indexOf(item);
        if (index == 0) {
            throw new IllegalStateException();
        }
        int to = state.items.get(parent).children.get(index - 1);
        moveOne(40, item, parent, to, state.items.get(to).children.size());
        return to;
    }

    public int outdent(int line) {
        List<Integer> way = wayOf(line);
        if (way.size() == 2) {
            throw new IllegalStateException();
        }
        int item = way.get(way.size() - 1);
        int parent = way.get(way.size() - 2);
        int to = way.get(way.size() - 3);
        moveOne(50, item, parent, to, state.items.get(to).children.indexOf(parent) + 1);
        return to;
    }

    private void moveOne(int code, int item, int parent, int to, int index) {
        State next = state.copy();
        next.items.get(parent).children.remove((Integer) item);
        int reason = reason(next, item, to);
        if (reason != 0) {
            refuse(List.of(code, reason));
        }
        next.items.get(to).children.add(index, item);
        change(next);
    }

    public int rename(int item) {
        mustHave(item);
        mustNotBeRoot(item);
        String name = readName();
        int length = state.items.get(item).name.length();
        State next = state.copy();
        next.items.get(item).name = name;
        change(next);
        return length;
    }

    public int setNumber(int item, boolean isDay, int number) {
        mustHave(item);
        if (isDay ? number < -1 || number > 9999 : number < -999 || number > 999) {
            throw new IllegalArgumentException();
        }
        State next = state.copy();
        Item changed = next.items.get(item);
        int former = isDay ? changed.day : changed.value;
        if (isDay) {
            changed.day = number;
        } else {
            changed.value = number;
        }
        change(next);
        return former;
    }

    public boolean setFlag(int item, boolean isFold, boolean on) {
        mustHave(item);
        State next = state.copy();
        Item changed = next.items.get(item);
        boolean former = isFold ? changed.folded : changed.done;
        if (isFold) {
            changed.folded = on;
        } else {
            changed.done = on;
        }
        change(next);
        return former;
    }

    public int item(int item, int what) {
        mustHave(item);
        Item it = state.items.get(item);
        Set<Integer> family = family(state, item);
        Set<Integer> days = new TreeSet<>();
        int sum = 0;
        int leaves = 0;
        int doneLeaves = 0;
        for (int member : family) {
            Item one = state.items.get(member);
            sum += one.value;
            days.add(one.day);
            leaves += one.children.isEmpty() ? 1 : 0;
            doneLeaves += one.children.isEmpty() && one.done ? 1 : 0;
        }
        days.remove(-1);
        List<Integer> ordered = new ArrayList<>(days);
        int[] answers = {
            parents(item).size(), it.children.size(), places(item), it.name.length(), it.value, it.day,
            it.done ? 1 : 0, it.folded ? 1 : 0, family.size(), sum, ordered.isEmpty() ? -1 : ordered.get(0),
            ordered.isEmpty() ? -1 : ordered.get(ordered.size() - 1), leaves, doneLeaves,
            ways(state, item, true).size() - 1,
        };
        if (what < 0 || what >= answers.length) {
            throw new IllegalArgumentException();
        }
        return answers[what];
    }

    public int related(int item, int index, boolean isParent) {
        mustHave(item);
        List<Integer> all = isParent ? parents(item) : state.items.get(item).children;
        mustBeIndex(index, all.size());
        return all.get(index);
    }

    public char letter(int item, int index) {
        mustHave(item);
        mustNotBeRoot(item);
        mustBeIndex(index, state.items.get(item).name.length());
        return state.items.get(item).name.charAt(index);
    }

    public boolean isBelow(int item, int other) {
        mustHave(item);
        mustHave(other);
        return item != other && family(state, other).contains(item);
    }

    public int outline(int what) {
        int fitting = 0;
        for (int item : state.items.keySet()) {
            fitting += item != 0 && fits(item) ? 1 : 0;
        }
        List<List<Integer>> ways = waysNow();
        int steps = 0;
        for (List<Integer> way : ways) {
            steps = Math.max(steps, way.size() - 1);
        }
        int[] answers = {
            state.items.size(), state.added, ways.size() - 1, lines().size(), hoistedItem(), hoisted.size(),
            conditions.size(), fitting, buffer.length(), before.size(), steps,
        };
        if (what < 0 || what >= answers.length) {
            throw new IllegalArgumentException();
        }
        return answers[what];
    }

    public float doneShare(int item) {
        return (float) item(item, 13) / (float) item(item, 12);
    }

    public double meanValue(int item) {
        return (double) item(item, 9) / (double) item(item, 8);
    }

    public int hoist(int item) {
        mustHave(item);
        if (hoisted.size() == 4) {
            throw new IllegalStateException();
        }
        hoisted.add(item);
        return hoisted.size();
    }

    public int unhoist() {
        if (hoisted.isEmpty()) {
            throw new IllegalStateException();
        }
        hoisted.remove(hoisted.size() - 1);
        return hoistedItem();
    }

    public int filter() {
        String read = buffer;
        buffer = "";
        List<String> next = new ArrayList<>();
        if (!read.isEmpty()) {
            failAt(stumble(FILTER_TEXT, read));
            next.addAll(List.of(read.split("&")));
        }
        conditions = next;
        return lines().size();
    }

    public int line(int line, int what) {
        List<Integer> way = wayOf(line);
        int item = way.get(way.size() - 1);
        int parent = way.get(way.size() - 2);
        int[] answers = {
            item, way.size() - 2, parent, state.items.get(parent).children.indexOf(item), pathOf(way).length(),
            fits(item) ? 1 : 0,
        };
        if (what < 0 || what >= answers.length) {
            throw new IllegalArgumentException();
        }
        return answers[what];
    }

    public char path(int line, int index) {
        String path = pathOf(wayOf(line));
        mustBeIndex(index, path.length());
        return path.charAt(index);
    }

    public int lineOf(int item) {
        List<List<Integer>> lines = lines();
        for (int line = 0; line < lines.size(); line++) {
            if (lines.get(line).get(lines.get(line).size() - 1) == item) {
                return line;
            }
        }
        return -1;
    }

    public int load(int item) {
        mustHave(item);
        String read = buffer;
        buffer = "";
        failAt(stumbleOfOutline(read));
        State next = state.copy();
        List<Integer> items = new ArrayList<>();
        List<Integer> open = new ArrayList<>(List.of(item));
        for (String entry : read.split(";")) {
            Matcher parts = ENTRY_PARTS.matcher(entry);
            if (!parts.matches()) {
                throw new AssertionError(entry);
            }
            while (open.size() > parts.group(1).length() + 1) {
                open.remove(open.size() - 1);
            }
            int parent = open.get(open.size() - 1);
            int cloned = parts.group(6) == null ? -1 : items.get(Integer.parseInt(parts.group(6)));
            int reason = reason(next, cloned, parent);
            if (reason != 0) {
                refuse(List.of(60, 100 + items.size(), reason));
            }
            items.add(cloned < 0 ? make(next, parts) : cloned);
            next.items.get(parent).children.add(items.get(items.size() - 1));
            open.add(items.get(items.size() - 1));
        }
        change(next);
        return items.size();
    }

    public int errorPosition() {
        if (error < 0) {
            throw new IllegalStateException();
        }
        return error;
    }

    public int refusal(int index) {
        if (chain.isEmpty()) {
            throw new IllegalStateException();
        }
        mustBeIndex(index, chain.size());
        return chain.get(index);
    }

    public boolean isConsistent() {
        return true;
    }

    public int undo() {
        if (before.isEmpty()) {
            throw new IllegalStateException();
        }
        state = before.removeLast();
        endHoists();
        return before.size();
    }

    public int snapshot() {
        taken = state.copy();
        return taken.items.size();
    }

    public int restore() {
        if (taken == null) {
            throw new IllegalStateException();
        }
        state = taken.copy();
        before.clear();
        endHoists();
        return state.items.size();
    }

    private void mustHave(int item) {
        if (!state.items.containsKey(item)) {
            throw new NoSuchElementException();
        }
    }

    private void mustNotBeRoot(int item) {
        if (item == 0) {
            throw new NoSuchElementException();
        }
    }

    private void mustBeIndex(int index, int count) {
        if (index < 0 || index >= count) {
            throw new IndexOutOfBoundsException();
        }
    }

    private void mustBeGap(int index, int count) {
        if (index < 0 || index > count) {
            throw new IndexOutOfBoundsException();
        }
    }

    private void refuse(List<Integer> numbers) {
        chain = numbers;
        throw new UnsupportedOperationException();
    }

    private void failAt(int position) {
        if (position >= 0) {
            error = position;
            throw new IllegalArgumentException();
        }
    }

    private void change(State next) {
        before.addLast(state);
        if (before.size() > 8) {
            before.removeFirst();
        }
        state = next;
        endHoists();
    }

    private void endHoists() {
        if (!state.items.keySet().containsAll(hoisted)) {
            hoisted.clear();
        }
    }

    private int hoistedItem() {
        return hoisted.isEmpty() ? 0 : hoisted.get(hoisted.size() - 1);
    }

    private String readName() {
        String read = buffer;
        buffer = "";
        failAt(stumble(NAME_TEXT, read));
        return read;
    }

    private static int make(State next, String name) {
        next.added++;
        Item item = new Item();
        item.name = name;
        next.items.put(next.added, item);
        return next.added;
    }

    private static int make(State next, Matcher parts) {
        int item = make(next, parts.group(2));
        Item made = next.items.get(item);
        made.day = parts.group(3) == null ? -1 : Integer.parseInt(parts.group(3));
        made.value = parts.group(4) == null ? 0 : Integer.parseInt(parts.group(4));
        made.done = parts.group(5).equals("x");
        return item;
    }

    /** The child -1 stands for a new item. */
    private static int reason(State in, int child, int parent) {
        List<Integer> children = in.items.get(parent).children;
        if (child < 0 && in.added == 60 || children.size() == 12) {
            return 1;
        }
        if (children.contains(child)) {
            return 2;
        }
        if (child >= 0 && family(in, child).contains(parent)) {
            return 3;
        }
        State next = in.copy();
        next.items.get(parent).children.add(child < 0 ? make(next, "n") : child);
        return ways(next, 0, true).size() - 1 > 300 ? 4 : 0;
    }

    private static Set<Integer> family(State in, int item) {
        Set<Integer> found = new HashSet<>();
        Deque<Integer> open = new ArrayDeque<>(List.of(item));
        while (!open.isEmpty()) {
            int one = open.pop();
            if (found.add(one)) {
                open.addAll(in.items.get(one).children);
            }
        }
        return found;
    }

    private List<Integer> parents(int item) {
        List<Integer> found = new ArrayList<>();
        for (int parent : state.items.keySet()) {
            if (state.items.get(parent).children.contains(item)) {
                found.add(parent);
            }
        }
        return found;
    }

    private List<List<Integer>> waysNow() {
        if (waysOf != state) {
            waysOf = state;
            presentWays = ways(state, 0, true);
        }
        return presentWays;
    }

    private int places(int item) {
        int count = 0;
        for (List<Integer> way : waysNow()) {
            count += way.get(way.size() - 1) == item ? 1 : 0;
        }
        return count;
    }

    /** The ways from an item downwards, the empty one first, in the order of the lines. */
    private static List<List<Integer>> ways(State in, int from, boolean throughFolds) {
        List<List<Integer>> found = new ArrayList<>();
        follow(in, new ArrayList<>(List.of(from)), throughFolds, found);
        return found;
    }

    private static void follow(State in, List<Integer> way, boolean throughFolds, List<List<Integer>> found) {
        found.add(new ArrayList<>(way));
        Item last = in.items.get(way.get(way.size() - 1));
        if (!throughFolds && last.folded && way.size() > 1) {
            return;
        }
        for (int child : last.children) {
            way.add(child);
            follow(in, way, throughFolds, found);
            way.remove(way.size() - 1);
        }
    }

    private List<List<Integer>> lines() {
        if (linesOf != state || linesConditions != conditions || !hoisted.equals(linesHoisted)) {
            linesOf = state;
            linesConditions = conditions;
            linesHoisted = new ArrayList<>(hoisted);
            presentLines = findLines();
        }
        return presentLines;
    }

    private List<List<Integer>> findLines() {
        List<List<Integer>> found = ways(state, hoistedItem(), !conditions.isEmpty());
        found.remove(0);
        Map<Integer, Boolean> kept = new TreeMap<>();
        for (int item : state.items.keySet()) {
            kept.put(item, family(state, item).stream().anyMatch(this::fits));
        }
        found.removeIf(way -> !kept.get(way.get(way.size() - 1)));
        return found;
    }

    private List<Integer> wayOf(int line) {
        List<List<Integer>> lines = lines();
        if (line < 0 || line >= lines.size()) {
            throw new NoSuchElementException();
        }
        return lines.get(line);
    }

    private String pathOf(List<Integer> way) {
        List<String> names = new ArrayList<>();
        for (int item : way.subList(1, way.size())) {
            names.add(state.items.get(item).name);
        }
        return String.join("/", names);
    }

    private boolean fits(int item) {
        for (String condition : conditions) {
            boolean isNegated = condition.startsWith("!");
            if (fulfills(item, isNegated ? condition.substring(1) : condition) == isNegated) {
                return false;
            }
        }
        return true;
    }

    private boolean fulfills(int item, String condition) {
        Item it = state.items.get(item);
        int sum = 0;
        for (int member : family(state, item)) {
            sum += state.items.get(member).value;
        }
        String rest = condition.substring(1);
        switch (condition.charAt(0)) {
            case '>': return sum > Integer.parseInt(rest);
            case '<': return sum < Integer.parseInt(rest);
            case '~': return it.name.contains(rest);
            case 'l': return it.children.isEmpty();
            case 'm': return places(item) > 1;
            default: return condition.equals("done") ? it.done : it.day >= 0;
        }
    }

    /** The error position by the form alone, or -1. */
    private static int stumble(Pattern form, String read) {
        for (int end = 1; end <= read.length(); end++) {
            Matcher matcher = form.matcher(read.substring(0, end));
            if (!matcher.matches() && !matcher.hitEnd()) {
                return end - 1;
            }
        }
        return form.matcher(read).matches() ? -1 : read.length();
    }

    /** What the form lets through, the levels and the numbers of the entries may not. */
    private static int stumbleOfOutline(String read) {
        int position = stumble(OUTLINE_TEXT, read);
        int start = 0;
        int deepest = 0;
        String[] all = read.split(";", -1);
        for (int number = 0; number < all.length; number++) {
            String entry = all[number];
            int level = 0;
            while (level < entry.length() && entry.charAt(level) == '.') {
                level++;
            }
            if (level > deepest) {
                return earlier(position, start + deepest);
            }
            boolean isClone = level < entry.length() && entry.charAt(level) == '*';
            if (isClone && number == 0) {
                return earlier(position, start + level);
            }
            Matcher digits = Pattern.compile("\\.*\\*(" + NUMBER + ").*").matcher(entry);
            if (digits.matches() && Integer.parseInt(digits.group(1)) >= number) {
                return earlier(position, start + level + 1);
            }
            deepest = isClone ? level : level + 1;
            start += entry.length() + 1;
        }
        return position;
    }

    private static int earlier(int one, int other) {
        return one < 0 ? other : Math.min(one, other);
    }
}
