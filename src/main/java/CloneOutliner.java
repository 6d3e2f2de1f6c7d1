import java.util.NoSuchElementException;

/** An outliner whose items can stand at several places. The document DOC.md says what each call promises. */
public final class CloneOutliner {
    private static final int ROOT = 0;
    private static final int ADD_LIMIT = 60;
    private static final int SLOTS = ADD_LIMIT + 1;
    private static final int CHILD_LIMIT = 12;
    private static final int NAME_LIMIT = 10;
    private static final int PLACE_LIMIT = 300;
    private static final int VALUE_LIMIT = 999;
    private static final int DAY_LIMIT = 9999;
    private static final int NO_DAY = -1;
    private static final int TEXT_LIMIT = 80;
    private static final int HOIST_LIMIT = 4;
    private static final int UNDO_LIMIT = 8;
    private static final int CONDITION_LIMIT = 5;
    /** Entries are at least one character long, with a ";" between two of them. */
    private static final int ENTRY_LIMIT = (TEXT_LIMIT + 1) / 2;

    private static final int CODE_ADD = 10;
    private static final int CODE_CLONE = 20;
    private static final int CODE_MOVE = 30;
    private static final int CODE_INDENT = 40;
    private static final int CODE_OUTDENT = 50;
    private static final int CODE_LOAD = 60;

    private static final int NO_REASON = 0;
    private static final int REASON_FULL = 1;
    private static final int REASON_CHILD = 2;
    private static final int REASON_BELOW = 3;
    private static final int REASON_PLACES = 4;

    /** Stands for what was not found or not read; no number of the document is as low. */
    private static final int NONE = -1000000;

    private Tree tree = new Tree();
    /** Each change is made here first, so that a refused one leaves the tree as it was. */
    private Tree draft = new Tree();
    private Tree saved = null;
    /** Always tells of the tree, never of the draft. */
    private final Survey survey = new Survey();
    private final Survey trial = new Survey();
    private final History history = new History();
    private final Hoists hoists = new Hoists();
    private Conditions conditions = new Conditions();
    private Conditions spareConditions = new Conditions();
    private final Lines lines = new Lines();
    private final Text text = new Text();
    private final Entries entries = new Entries();
    private final Chain chain = new Chain();
    private final char[] readName = new char[NAME_LIMIT];
    private final int[] block = new int[CHILD_LIMIT];
    private int errorAt = NONE;

    public CloneOutliner() {
    }

    // ---- items

    public int clear() {
        int items = tree.countItems();
        tree.reset();
        history.forget();
        hoists.endAll();
        conditions.forget();
        settle();
        return items;
    }

    public int append(int packed) throws IllegalArgumentException, IllegalStateException {
        int count = 0;
        for (int shift = 24; shift >= 0; shift -= 8) {
            int code = (packed >>> shift) & 255;
            if (code != 0) {
                if (code < 32 || code > 126) {
                    throw new IllegalArgumentException("a byte is not a character from 32 to 126");
                }
                count++;
            }
        }
        if (!text.hasRoomFor(count)) {
            throw new IllegalStateException("the input buffer holds no more than 80 characters");
        }
        for (int shift = 24; shift >= 0; shift -= 8) {
            int code = (packed >>> shift) & 255;
            if (code != 0) {
                text.put((char) code);
            }
        }
        return text.size();
    }

    public int add(int parent, int index) throws NoSuchElementException, IndexOutOfBoundsException,
            IllegalArgumentException, UnsupportedOperationException {
        needItem(parent);
        needGap(index, tree.childCount(parent));
        int length = takeName();
        int reason = survey.reasonAgainstNew(tree, parent);
        if (reason != NO_REASON) {
            chain.keep(CODE_ADD, 0, reason);
            throw new UnsupportedOperationException("it is refused");
        }
        draft.copyFrom(tree);
        int item = draft.makeItem(readName, 0, length);
        draft.insertChild(parent, index, item);
        adoptDraft();
        return item;
    }

    public int clone(int item, int parent, int index)
            throws NoSuchElementException, IndexOutOfBoundsException, UnsupportedOperationException {
        needNamedItem(item);
        needItem(parent);
        needGap(index, tree.childCount(parent));
        int reason = survey.reasonAgainst(tree, item, parent);
        if (reason != NO_REASON) {
            chain.keep(CODE_CLONE, 0, reason);
            throw new UnsupportedOperationException("it is refused");
        }
        draft.copyFrom(tree);
        draft.insertChild(parent, index, item);
        adoptDraft();
        return survey.placesOf(item);
    }

    public int detach(int parent, int index) throws NoSuchElementException, IndexOutOfBoundsException {
        needItem(parent);
        needIndex(index, tree.childCount(parent));
        draft.copyFrom(tree);
        draft.removeChild(parent, index);
        trial.measure(draft);
        int removed = draft.keepOnly(trial.familyOf(ROOT));
        adoptDraft();
        return removed;
    }

    public int moveBlock(int parent, int first, int last, int to, int index)
            throws NoSuchElementException, IndexOutOfBoundsException, UnsupportedOperationException {
        needItem(parent);
        needItem(to);
        needIndex(first, tree.childCount(parent));
        needIndex(last, tree.childCount(parent));
        if (last < first) {
            throw new IndexOutOfBoundsException("the last child is before the first one");
        }
        int count = last - first + 1;
        needGap(index, tree.childCount(to) - (to == parent ? count : 0));
        draft.copyFrom(tree);
        takeBlock(parent, first, count);
        if (!putBlock(CODE_MOVE, count, to, index)) {
            throw new UnsupportedOperationException("it is refused");
        }
        adoptDraft();
        return count;
    }

    public int indent(int line) throws NoSuchElementException, IllegalStateException, UnsupportedOperationException {
        needLine(line, countLines());
        int parent = lines.itemAbove(line);
        int index = lines.indexIn(line);
        if (index == 0) {
            throw new IllegalStateException("no child is before it");
        }
        int to = tree.childAt(parent, index - 1);
        draft.copyFrom(tree);
        takeBlock(parent, index, 1);
        if (!putBlock(CODE_INDENT, 1, to, draft.childCount(to))) {
            throw new UnsupportedOperationException("it is refused");
        }
        adoptDraft();
        return to;
    }

    public int outdent(int line) throws NoSuchElementException, IllegalStateException, UnsupportedOperationException {
        needLine(line, countLines());
        if (lines.depthOf(line) == 0) {
            throw new IllegalStateException("its depth is 0");
        }
        int above = lines.lineAbove(line);
        int to = lines.itemAbove(above);
        draft.copyFrom(tree);
        takeBlock(lines.itemOf(above), lines.indexIn(line), 1);
        if (!putBlock(CODE_OUTDENT, 1, to, lines.indexIn(above) + 1)) {
            throw new UnsupportedOperationException("it is refused");
        }
        adoptDraft();
        return to;
    }

    public int rename(int item) throws NoSuchElementException, IllegalArgumentException {
        needNamedItem(item);
        int length = takeName();
        int before = tree.nameLength(item);
        draft.copyFrom(tree);
        draft.setName(item, readName, 0, length);
        adoptDraft();
        return before;
    }

    public int setNumber(int item, boolean isDay, int number) throws NoSuchElementException, IllegalArgumentException {
        needItem(item);
        int least = isDay ? NO_DAY : -VALUE_LIMIT;
        int greatest = isDay ? DAY_LIMIT : VALUE_LIMIT;
        if (number < least || number > greatest) {
            throw new IllegalArgumentException("the number is out of range");
        }
        int before = isDay ? tree.dayOf(item) : tree.valueOf(item);
        draft.copyFrom(tree);
        if (isDay) {
            draft.setDay(item, number);
        } else {
            draft.setValue(item, number);
        }
        adoptDraft();
        return before;
    }

    public boolean setFlag(int item, boolean isFold, boolean on) throws NoSuchElementException {
        needItem(item);
        boolean before = contains(isFold ? tree.foldedItems() : tree.doneItems(), item);
        draft.copyFrom(tree);
        if (isFold) {
            draft.setFolded(item, on);
        } else {
            draft.setDone(item, on);
        }
        adoptDraft();
        return before;
    }

    // ---- answers about items

    public int item(int item, int what) throws NoSuchElementException, IllegalArgumentException {
        needItem(item);
        switch (what) {
            case 0: return survey.parentsOf(item);
            case 1: return tree.childCount(item);
            case 2: return survey.placesOf(item);
            case 3: return tree.nameLength(item);
            case 4: return tree.valueOf(item);
            case 5: return tree.dayOf(item);
            case 6: return contains(tree.doneItems(), item) ? 1 : 0;
            case 7: return contains(tree.foldedItems(), item) ? 1 : 0;
            case 8: return Long.bitCount(survey.familyOf(item));
            case 9: return tree.sumOf(survey.familyOf(item));
            case 10: return tree.earliestDay(survey.familyOf(item));
            case 11: return tree.latestDay(survey.familyOf(item));
            case 12: return countLeaves(item);
            case 13: return countDoneLeaves(item);
            case 14: return survey.placesBelow(item);
            default: throw new IllegalArgumentException("what is out of range");
        }
    }

    public int related(int item, int index, boolean isParent) throws NoSuchElementException, IndexOutOfBoundsException {
        needItem(item);
        needIndex(index, isParent ? survey.parentsOf(item) : tree.childCount(item));
        return isParent ? tree.parentAt(item, index) : tree.childAt(item, index);
    }

    public char letter(int item, int index) throws NoSuchElementException, IndexOutOfBoundsException {
        needNamedItem(item);
        needIndex(index, tree.nameLength(item));
        return tree.letterAt(item, index);
    }

    public boolean isBelow(int item, int other) throws NoSuchElementException {
        needItem(item);
        needItem(other);
        return item != other && contains(survey.familyOf(other), item);
    }

    public int outline(int what) throws IllegalArgumentException {
        switch (what) {
            case 0: return tree.countItems();
            case 1: return tree.countAdded();
            case 2: return survey.placesBelow(ROOT);
            case 3: return countLines();
            case 4: return hoists.top();
            case 5: return hoists.size();
            case 6: return conditions.size();
            case 7: return Long.bitCount(conditions.fittingItems(tree, survey));
            case 8: return text.size();
            case 9: return history.size();
            case 10: return survey.greatestDepth();
            default: throw new IllegalArgumentException("what is out of range");
        }
    }

    public float doneShare(int item) throws NoSuchElementException {
        needItem(item);
        int leaves = countLeaves(item);
        return leaves == 0 ? 0.0f : (float) countDoneLeaves(item) / (float) leaves;
    }

    public double meanValue(int item) throws NoSuchElementException {
        needItem(item);
        long family = survey.familyOf(item);
        int members = Long.bitCount(family);
        return members == 0 ? 0.0 : (double) tree.sumOf(family) / (double) members;
    }

    // ---- lines

    public int hoist(int item) throws NoSuchElementException, IllegalStateException {
        needItem(item);
        if (hoists.size() >= HOIST_LIMIT) {
            throw new IllegalStateException("there are 4 hoists");
        }
        hoists.push(item);
        return hoists.size();
    }

    public int unhoist() throws IllegalStateException {
        if (hoists.size() == 0) {
            throw new IllegalStateException("there are no hoists");
        }
        hoists.pop();
        return hoists.top();
    }

    public int filter() throws IllegalArgumentException {
        if (text.size() == 0) {
            conditions.forget();
            return countLines();
        }
        if (!spareConditions.read(text)) {
            failText();
        }
        text.forget();
        Conditions former = conditions;
        conditions = spareConditions;
        spareConditions = former;
        return countLines();
    }

    public int line(int line, int what) throws NoSuchElementException, IllegalArgumentException {
        needLine(line, countLines());
        switch (what) {
            case 0: return lines.itemOf(line);
            case 1: return lines.depthOf(line);
            case 2: return lines.itemAbove(line);
            case 3: return lines.indexIn(line);
            case 4: return lines.pathLength(tree, line);
            case 5: return contains(conditions.fittingItems(tree, survey), lines.itemOf(line)) ? 1 : 0;
            default: throw new IllegalArgumentException("what is out of range");
        }
    }

    public char path(int line, int index) throws NoSuchElementException, IndexOutOfBoundsException {
        needLine(line, countLines());
        needIndex(index, lines.pathLength(tree, line));
        return lines.pathSign(tree, line, index);
    }

    public int lineOf(int item) {
        int count = countLines();
        for (int line = 0; line < count; line++) {
            if (lines.itemOf(line) == item) {
                return line;
            }
        }
        return -1;
    }

    // ---- texts and refusals

    public int load(int item) throws NoSuchElementException, IllegalArgumentException, UnsupportedOperationException {
        needItem(item);
        if (!entries.read(text)) {
            failText();
        }
        text.forget();
        draft.copyFrom(tree);
        if (!putEntries(item)) {
            throw new UnsupportedOperationException("it is refused");
        }
        adoptDraft();
        return entries.size();
    }

    public int errorPosition() throws IllegalStateException {
        if (errorAt == NONE) {
            throw new IllegalStateException("no text was malformed");
        }
        return errorAt;
    }

    public int refusal(int index) throws IllegalStateException, IndexOutOfBoundsException {
        if (chain.size() == 0) {
            throw new IllegalStateException("nothing was refused");
        }
        needIndex(index, chain.size());
        return chain.numberAt(index);
    }

    public boolean isConsistent() {
        trial.measure(tree);
        return trial.ordersAll(tree) && trial.familyOf(ROOT) == tree.presentItems() && tree.hasSoundChildren()
                && tree.hasParentsAs(trial) && trial.sumOfPlaces(tree) == trial.placesBelow(ROOT);
    }

    // ---- undo and snapshot

    public int undo() throws IllegalStateException {
        if (history.size() == 0) {
            throw new IllegalStateException("no change can be undone");
        }
        tree = history.pop(tree);
        settle();
        return history.size();
    }

    public int snapshot() {
        if (saved == null) {
            saved = new Tree();
        }
        saved.copyFrom(tree);
        return saved.countItems();
    }

    public int restore() throws IllegalStateException {
        if (saved == null) {
            throw new IllegalStateException("there is no snapshot");
        }
        tree.copyFrom(saved);
        history.forget();
        settle();
        return tree.countItems();
    }

    // ---- what must be so for a call to go on

    private void needItem(int item) {
        if (!tree.holds(item)) {
            throw new NoSuchElementException("there is no such item");
        }
    }

    private void needNamedItem(int item) {
        if (item == ROOT || !tree.holds(item)) {
            throw new NoSuchElementException("there is no such item other than the root");
        }
    }

    private void needIndex(int index, int count) {
        if (index < 0 || index >= count) {
            throw new IndexOutOfBoundsException("there is no such index");
        }
    }

    /** A gap is a place among some children: before, between or behind them. */
    private void needGap(int index, int count) {
        if (index < 0 || index > count) {
            throw new IndexOutOfBoundsException("the index is out of range");
        }
    }

    private void needLine(int line, int count) {
        if (line < 0 || line >= count) {
            throw new NoSuchElementException("there is no such line");
        }
    }

    private void failText() {
        errorAt = text.position();
        text.forget();
        throw new IllegalArgumentException("the text is malformed");
    }

    // ---- changes

    /** Keeps the tree for undo and makes the draft the tree; what becomes free is the next draft. */
    private void adoptDraft() {
        Tree free = history.push(tree);
        tree = draft;
        draft = free;
        settle();
    }

    private void settle() {
        survey.measure(tree);
        hoists.endUnlessAllIn(tree.presentItems());
    }

    /** Reads the buffer as a name and empties it; the letters are then in readName. */
    private int takeName() {
        text.start();
        int length = text.takeLetters(readName, 0);
        if (length == 0 || !text.isAtEnd()) {
            failText();
        }
        text.forget();
        return length;
    }

    /** Takes children away in the draft; they are then in the block. */
    private void takeBlock(int parent, int first, int count) {
        for (int number = 0; number < count; number++) {
            block[number] = draft.childAt(parent, first);
            draft.removeChild(parent, first);
        }
    }

    private boolean putBlock(int code, int count, int to, int index) {
        for (int number = 0; number < count; number++) {
            trial.measure(draft);
            int reason = trial.reasonAgainst(draft, block[number], to);
            if (reason != NO_REASON) {
                chain.keep(code, number, reason);
                return false;
            }
            draft.insertChild(to, index + number, block[number]);
        }
        return true;
    }

    private boolean putEntries(int item) {
        for (int number = 0; number < entries.size(); number++) {
            int parent = entries.parentFor(number, item);
            trial.measure(draft);
            int reason = entries.isClone(number)
                    ? trial.reasonAgainst(draft, entries.itemToClone(number), parent)
                    : trial.reasonAgainstNew(draft, parent);
            if (reason != NO_REASON) {
                chain.keep(CODE_LOAD, number, reason);
                return false;
            }
            draft.insertChild(parent, draft.childCount(parent), entries.itemFor(draft, number));
        }
        return true;
    }

    // ---- figures

    private int countLeaves(int item) {
        return Long.bitCount(survey.familyOf(item) & tree.leafItems());
    }

    private int countDoneLeaves(int item) {
        return Long.bitCount(survey.familyOf(item) & tree.leafItems() & tree.doneItems());
    }

    /** Finds the lines as they are now; they are then in lines. */
    private int countLines() {
        if (conditions.size() == 0) {
            lines.find(tree, hoists.top(), tree.presentItems(), ~tree.foldedItems());
        } else {
            long kept = survey.itemsAtOrAbove(conditions.fittingItems(tree, survey));
            lines.find(tree, hoists.top(), kept, tree.presentItems());
        }
        return lines.size();
    }

    // ---- sets of items, a bit each

    private static boolean contains(long items, int item) {
        return ((items >>> item) & 1L) != 0L;
    }

    private static long with(long items, int item, boolean isIn) {
        return isIn ? items | (1L << item) : items & ~(1L << item);
    }

    /** All that changes can change. */
    private static final class Tree {
        private final int[] childCounts = new int[SLOTS];
        private final int[] children = new int[SLOTS * CHILD_LIMIT];
        private final int[] nameLengths = new int[SLOTS];
        private final char[] names = new char[SLOTS * NAME_LIMIT];
        private final int[] values = new int[SLOTS];
        private final int[] days = new int[SLOTS];
        private long present = 1L << ROOT;
        private long done = 0L;
        private long folded = 0L;
        private int added = 0;

        Tree() {
            days[ROOT] = NO_DAY;
        }

        void reset() {
            present = 1L << ROOT;
            done = 0L;
            folded = 0L;
            added = 0;
            childCounts[ROOT] = 0;
            values[ROOT] = 0;
            days[ROOT] = NO_DAY;
        }

        void copyFrom(Tree other) {
            System.arraycopy(other.childCounts, 0, childCounts, 0, SLOTS);
            System.arraycopy(other.children, 0, children, 0, SLOTS * CHILD_LIMIT);
            System.arraycopy(other.nameLengths, 0, nameLengths, 0, SLOTS);
            System.arraycopy(other.names, 0, names, 0, SLOTS * NAME_LIMIT);
            System.arraycopy(other.values, 0, values, 0, SLOTS);
            System.arraycopy(other.days, 0, days, 0, SLOTS);
            present = other.present;
            done = other.done;
            folded = other.folded;
            added = other.added;
        }

        boolean holds(int item) {
            return item >= 0 && item < SLOTS && contains(present, item);
        }

        int countItems() {
            return Long.bitCount(present);
        }

        int countAdded() {
            return added;
        }

        long presentItems() {
            return present;
        }

        long doneItems() {
            return done;
        }

        long foldedItems() {
            return folded;
        }

        int nameLength(int item) {
            return nameLengths[item];
        }

        char letterAt(int item, int index) {
            return names[item * NAME_LIMIT + index];
        }

        int valueOf(int item) {
            return values[item];
        }

        int dayOf(int item) {
            return days[item];
        }

        int childCount(int item) {
            return childCounts[item];
        }

        int childAt(int item, int index) {
            return children[item * CHILD_LIMIT + index];
        }

        void setValue(int item, int value) {
            values[item] = value;
        }

        void setDay(int item, int day) {
            days[item] = day;
        }

        void setDone(int item, boolean on) {
            done = with(done, item, on);
        }

        void setFolded(int item, boolean on) {
            folded = with(folded, item, on);
        }

        void setName(int item, char[] letters, int from, int length) {
            nameLengths[item] = length;
            System.arraycopy(letters, from, names, item * NAME_LIMIT, length);
        }

        /** Makes an item that is not yet a child; whoever calls has seen that fewer than 60 were added. */
        int makeItem(char[] letters, int from, int length) {
            added++;
            int item = added;
            present = with(present, item, true);
            done = with(done, item, false);
            folded = with(folded, item, false);
            childCounts[item] = 0;
            values[item] = 0;
            days[item] = NO_DAY;
            setName(item, letters, from, length);
            return item;
        }

        /** Removes the other items and answers how many they are. */
        int keepOnly(long kept) {
            long gone = present & ~kept;
            present &= kept;
            return Long.bitCount(gone);
        }

        void insertChild(int parent, int index, int child) {
            int from = parent * CHILD_LIMIT;
            for (int behind = childCounts[parent]; behind > index; behind--) {
                children[from + behind] = children[from + behind - 1];
            }
            children[from + index] = child;
            childCounts[parent]++;
        }

        void removeChild(int parent, int index) {
            int from = parent * CHILD_LIMIT;
            childCounts[parent]--;
            for (int behind = index; behind < childCounts[parent]; behind++) {
                children[from + behind] = children[from + behind + 1];
            }
        }

        boolean hasChild(int parent, int child) {
            for (int index = 0; index < childCounts[parent]; index++) {
                if (childAt(parent, index) == child) {
                    return true;
                }
            }
            return false;
        }

        int countParents(int item) {
            int count = 0;
            for (int parent = 0; parent < SLOTS; parent++) {
                count += holds(parent) && hasChild(parent, item) ? 1 : 0;
            }
            return count;
        }

        int parentAt(int item, int index) {
            int seen = 0;
            for (int parent = 0; parent < SLOTS; parent++) {
                if (holds(parent) && hasChild(parent, item)) {
                    if (seen == index) {
                        return parent;
                    }
                    seen++;
                }
            }
            return NONE;
        }

        long datedItems() {
            long dated = 0L;
            for (int item = 0; item < SLOTS; item++) {
                dated = with(dated, item, holds(item) && days[item] != NO_DAY);
            }
            return dated;
        }

        long leafItems() {
            long leaves = 0L;
            for (int item = 0; item < SLOTS; item++) {
                leaves = with(leaves, item, holds(item) && childCounts[item] == 0);
            }
            return leaves;
        }

        int sumOf(long family) {
            int sum = 0;
            for (int item = 0; item < SLOTS; item++) {
                if (contains(family, item)) {
                    sum += values[item];
                }
            }
            return sum;
        }

        int earliestDay(long family) {
            int earliest = NO_DAY;
            for (int item = 0; item < SLOTS; item++) {
                int day = days[item];
                if (contains(family, item) && day != NO_DAY && (earliest == NO_DAY || day < earliest)) {
                    earliest = day;
                }
            }
            return earliest;
        }

        int latestDay(long family) {
            int latest = NO_DAY;
            for (int item = 0; item < SLOTS; item++) {
                if (contains(family, item)) {
                    latest = Math.max(latest, days[item]);
                }
            }
            return latest;
        }

        boolean nameContains(int item, char[] letters, int from, int length) {
            for (int start = 0; start + length <= nameLengths[item]; start++) {
                int same = 0;
                while (same < length && letterAt(item, start + same) == letters[from + same]) {
                    same++;
                }
                if (same == length) {
                    return true;
                }
            }
            return false;
        }

        boolean hasSoundChildren() {
            for (int item = 0; item < SLOTS; item++) {
                long seen = 1L << ROOT;
                for (int index = 0; holds(item) && index < childCounts[item]; index++) {
                    int child = childAt(item, index);
                    if (!holds(child) || contains(seen, child)) {
                        return false;
                    }
                    seen = with(seen, child, true);
                }
            }
            return true;
        }

        boolean hasParentsAs(Survey counted) {
            for (int item = 0; item < SLOTS; item++) {
                if (holds(item) && countParents(item) != counted.parentsOf(item)) {
                    return false;
                }
            }
            return true;
        }
    }

    /** What the links of a tree come to: parents, places, families and depths. */
    private static final class Survey {
        private final int[] parentCounts = new int[SLOTS];
        private final int[] unseenParents = new int[SLOTS];
        /** Every item stands behind all its parents. */
        private final int[] order = new int[SLOTS];
        private int ordered = 0;
        private final int[] places = new int[SLOTS];
        private final int[] depths = new int[SLOTS];
        private final int[] below = new int[SLOTS];
        private final long[] families = new long[SLOTS];

        /** Knows a tree that is the root alone. */
        Survey() {
            order[0] = ROOT;
            ordered = 1;
            places[ROOT] = 1;
            families[ROOT] = 1L << ROOT;
        }

        void measure(Tree tree) {
            countParents(tree);
            orderItems(tree);
            measureDownwards(tree);
            measureUpwards(tree);
        }

        private void countParents(Tree tree) {
            for (int item = 0; item < SLOTS; item++) {
                parentCounts[item] = 0;
                unseenParents[item] = 0;
            }
            for (int item = 0; item < SLOTS; item++) {
                for (int index = 0; tree.holds(item) && index < tree.childCount(item); index++) {
                    int child = tree.childAt(item, index);
                    parentCounts[child]++;
                    unseenParents[child]++;
                }
            }
        }

        /** Items that a move has taken away have no parents either, so that they start an order, too. */
        private void orderItems(Tree tree) {
            ordered = 0;
            for (int item = 0; item < SLOTS; item++) {
                if (tree.holds(item) && parentCounts[item] == 0) {
                    putInOrder(item);
                }
            }
            for (int at = 0; at < ordered && at < SLOTS; at++) {
                int item = order[at];
                for (int index = 0; index < tree.childCount(item); index++) {
                    int child = tree.childAt(item, index);
                    unseenParents[child]--;
                    if (unseenParents[child] == 0) {
                        putInOrder(child);
                    }
                }
            }
        }

        private void putInOrder(int item) {
            if (ordered < SLOTS) {
                order[ordered] = item;
                ordered++;
            }
        }

        private void measureDownwards(Tree tree) {
            for (int item = 0; item < SLOTS; item++) {
                places[item] = item == ROOT ? 1 : 0;
                depths[item] = 0;
            }
            for (int at = 0; at < ordered; at++) {
                int item = order[at];
                for (int index = 0; index < tree.childCount(item); index++) {
                    int child = tree.childAt(item, index);
                    places[child] += places[item];
                    depths[child] = Math.max(depths[child], depths[item] + 1);
                }
            }
        }

        private void measureUpwards(Tree tree) {
            for (int at = ordered - 1; at >= 0; at--) {
                int item = order[at];
                below[item] = 0;
                families[item] = 1L << item;
                for (int index = 0; index < tree.childCount(item); index++) {
                    int child = tree.childAt(item, index);
                    below[item] += 1 + below[child];
                    families[item] |= families[child];
                }
            }
        }

        int parentsOf(int item) {
            return parentCounts[item];
        }

        int placesOf(int item) {
            return places[item];
        }

        int placesBelow(int item) {
            return below[item];
        }

        long familyOf(int item) {
            return families[item];
        }

        int greatestDepth() {
            int greatest = 0;
            for (int at = 0; at < ordered; at++) {
                greatest = Math.max(greatest, depths[order[at]]);
            }
            return greatest;
        }

        long itemsWithManyPlaces() {
            long found = 0L;
            for (int at = 0; at < ordered; at++) {
                found = with(found, order[at], places[order[at]] > 1);
            }
            return found;
        }

        long itemsAtOrAbove(long items) {
            long found = 0L;
            for (int at = 0; at < ordered; at++) {
                found = with(found, order[at], (families[order[at]] & items) != 0L);
            }
            return found;
        }

        int reasonAgainstNew(Tree tree, int parent) {
            if (tree.countAdded() >= ADD_LIMIT || tree.childCount(parent) >= CHILD_LIMIT) {
                return REASON_FULL;
            }
            return below[ROOT] + places[parent] > PLACE_LIMIT ? REASON_PLACES : NO_REASON;
        }

        int reasonAgainst(Tree tree, int child, int parent) {
            if (tree.childCount(parent) >= CHILD_LIMIT) {
                return REASON_FULL;
            }
            if (tree.hasChild(parent, child)) {
                return REASON_CHILD;
            }
            if (contains(families[child], parent)) {
                return REASON_BELOW;
            }
            // Each place of the parent gets the child with all that is below it.
            int more = places[parent] * (1 + below[child]);
            return below[ROOT] + more > PLACE_LIMIT ? REASON_PLACES : NO_REASON;
        }

        boolean ordersAll(Tree tree) {
            return ordered == tree.countItems();
        }

        int sumOfPlaces(Tree tree) {
            int sum = 0;
            for (int item = 1; item < SLOTS; item++) {
                sum += tree.holds(item) ? places[item] : 0;
            }
            return sum;
        }
    }

    /** The trees as they were before the changes that can be undone, the latest one last. */
    private static final class History {
        private final Tree[] trees = new Tree[UNDO_LIMIT];
        private int count = 0;

        int size() {
            return count;
        }

        void forget() {
            count = 0;
        }

        /** Answers a tree that nobody needs any more; behind the count, the row holds such trees. */
        Tree push(Tree before) {
            Tree free;
            if (count < UNDO_LIMIT) {
                free = trees[count];
                trees[count] = before;
                count++;
            } else {
                free = trees[0];
                for (int number = 1; number < UNDO_LIMIT; number++) {
                    trees[number - 1] = trees[number];
                }
                trees[UNDO_LIMIT - 1] = before;
            }
            return free == null ? new Tree() : free;
        }

        /** Takes the tree that is undone in exchange; it is free then. */
        Tree pop(Tree undone) {
            Tree before = count > 0 ? trees[count - 1] : undone;
            if (count > 0) {
                count--;
                trees[count] = undone;
            }
            return before == null ? undone : before;
        }
    }

    private static final class Hoists {
        private final int[] items = new int[HOIST_LIMIT];
        private int count = 0;

        int size() {
            return count;
        }

        int top() {
            return count == 0 ? ROOT : items[count - 1];
        }

        void push(int item) {
            if (count < HOIST_LIMIT) {
                items[count] = item;
                count++;
            }
        }

        void pop() {
            if (count > 0) {
                count--;
            }
        }

        void endAll() {
            count = 0;
        }

        void endUnlessAllIn(long present) {
            for (int number = 0; number < count; number++) {
                if (!contains(present, items[number])) {
                    count = 0;
                }
            }
        }
    }

    /** The chain of the latest refusal. */
    private static final class Chain {
        private final int[] numbers = new int[3];
        private int count = 0;

        int size() {
            return count;
        }

        int numberAt(int index) {
            return numbers[index];
        }

        void keep(int code, int number, int reason) {
            numbers[0] = code;
            count = 1;
            if (code == CODE_MOVE || code == CODE_LOAD) {
                numbers[count] = 100 + number;
                count++;
            }
            numbers[count] = reason;
            count++;
        }
    }

    /** The input buffer, and a reader that stands before one of its characters or at its end. */
    private static final class Text {
        private static final char END = 0;

        private final char[] signs = new char[TEXT_LIMIT];
        private int count = 0;
        private int at = 0;

        int size() {
            return count;
        }

        boolean hasRoomFor(int more) {
            return count + more <= TEXT_LIMIT;
        }

        void put(char sign) {
            if (count < TEXT_LIMIT) {
                signs[count] = sign;
                count++;
            }
        }

        void forget() {
            count = 0;
        }

        void start() {
            at = 0;
        }

        int position() {
            return at;
        }

        void goTo(int position) {
            at = position;
        }

        boolean isAtEnd() {
            return at >= count;
        }

        char next() {
            return at < count ? signs[at] : END;
        }

        boolean take(char sign) {
            if (next() != sign) {
                return false;
            }
            at++;
            return true;
        }

        /** If the word is not there, the reader stays before the first character that differs. */
        boolean takeWord(String word) {
            for (int index = 0; index < word.length(); index++) {
                if (!take(word.charAt(index))) {
                    return false;
                }
            }
            return true;
        }

        /** Answers how many letters were taken; one too many is left for the next step to stumble on. */
        int takeLetters(char[] into, int from) {
            int taken = 0;
            while (taken < NAME_LIMIT && next() >= 'a' && next() <= 'z') {
                into[from + taken] = next();
                taken++;
                at++;
            }
            return taken;
        }

        int takeNumber(int digits) {
            if (take('0')) {
                return 0;
            }
            int number = 0;
            int taken = 0;
            while (taken < digits && next() >= '0' && next() <= '9') {
                number = number * 10 + (next() - '0');
                taken++;
                at++;
            }
            return taken == 0 ? NONE : number;
        }

        int takeValue() {
            boolean isNegative = take('-');
            int number = takeNumber(3);
            return isNegative && number != NONE ? -number : number;
        }
    }

    /** A filter; without conditions, there is none, and every item fits. */
    private static final class Conditions {
        private static final int DONE = 0;
        private static final int DATED = 1;
        private static final int LEAF = 2;
        private static final int MANY = 3;
        private static final int GREATER = 4;
        private static final int LESS = 5;
        private static final int LETTERS = 6;

        private final int[] kinds = new int[CONDITION_LIMIT];
        private final boolean[] negated = new boolean[CONDITION_LIMIT];
        private final int[] numbers = new int[CONDITION_LIMIT];
        private final char[] letters = new char[CONDITION_LIMIT * NAME_LIMIT];
        private final int[] letterCounts = new int[CONDITION_LIMIT];
        private int count = 0;

        int size() {
            return count;
        }

        void forget() {
            count = 0;
        }

        /** If the text is malformed, its reader stands at the error position then. */
        boolean read(Text text) {
            text.start();
            count = 0;
            boolean goesOn = true;
            for (int number = 0; goesOn && number < CONDITION_LIMIT; number++) {
                if (!readCondition(text, number)) {
                    return false;
                }
                count = number + 1;
                goesOn = count < CONDITION_LIMIT && text.take('&');
            }
            return text.isAtEnd();
        }

        private boolean readCondition(Text text, int number) {
            negated[number] = text.take('!');
            if (text.take('d')) {
                return readDoneOrDated(text, number);
            }
            if (text.take('l')) {
                kinds[number] = LEAF;
                return text.takeWord("eaf");
            }
            if (text.take('m')) {
                kinds[number] = MANY;
                return text.takeWord("any");
            }
            if (text.take('>')) {
                return readBound(text, number, GREATER);
            }
            if (text.take('<')) {
                return readBound(text, number, LESS);
            }
            return text.take('~') && readLetters(text, number);
        }

        /** The "d" is behind the reader already. */
        private boolean readDoneOrDated(Text text, int number) {
            boolean isDone = text.next() == 'o';
            kinds[number] = isDone ? DONE : DATED;
            return text.takeWord(isDone ? "one" : "ated");
        }

        private boolean readBound(Text text, int number, int kind) {
            kinds[number] = kind;
            numbers[number] = text.takeValue();
            return numbers[number] != NONE;
        }

        private boolean readLetters(Text text, int number) {
            kinds[number] = LETTERS;
            letterCounts[number] = text.takeLetters(letters, number * NAME_LIMIT);
            return letterCounts[number] > 0;
        }

        /** The root is none of them. */
        long fittingItems(Tree tree, Survey survey) {
            long fitting = tree.presentItems() & ~(1L << ROOT);
            for (int number = 0; number < count; number++) {
                long fulfilling = fulfillingItems(tree, survey, number);
                fitting &= negated[number] ? ~fulfilling : fulfilling;
            }
            return fitting;
        }

        private long fulfillingItems(Tree tree, Survey survey, int number) {
            switch (kinds[number]) {
                case DONE: return tree.doneItems();
                case DATED: return tree.datedItems();
                case LEAF: return tree.leafItems();
                case MANY: return survey.itemsWithManyPlaces();
                case LETTERS: return itemsWithLetters(tree, number);
                default: return itemsWithinBound(tree, survey, number);
            }
        }

        private long itemsWithLetters(Tree tree, int number) {
            long found = 0L;
            for (int item = 1; item < SLOTS; item++) {
                found = with(found, item, tree.holds(item)
                        && tree.nameContains(item, letters, number * NAME_LIMIT, letterCounts[number]));
            }
            return found;
        }

        private long itemsWithinBound(Tree tree, Survey survey, int number) {
            long found = 0L;
            for (int item = 1; item < SLOTS; item++) {
                int sum = tree.holds(item) ? tree.sumOf(survey.familyOf(item)) : 0;
                found = with(found, item, kinds[number] == GREATER ? sum > numbers[number] : sum < numbers[number]);
            }
            return found;
        }
    }

    /** The entries of an outline's text, and the items that they become. */
    private static final class Entries {
        private final int[] levels = new int[ENTRY_LIMIT];
        /** For a clone the number of the entry that it names, else NONE. */
        private final int[] sources = new int[ENTRY_LIMIT];
        private final char[] names = new char[ENTRY_LIMIT * NAME_LIMIT];
        private final int[] nameLengths = new int[ENTRY_LIMIT];
        private final int[] days = new int[ENTRY_LIMIT];
        private final int[] values = new int[ENTRY_LIMIT];
        private final boolean[] done = new boolean[ENTRY_LIMIT];
        private final int[] items = new int[ENTRY_LIMIT];
        private int count = 0;

        int size() {
            return count;
        }

        boolean isClone(int number) {
            return sources[number] != NONE;
        }

        /** If the text is malformed, its reader stands at the error position then. */
        boolean read(Text text) {
            text.start();
            count = 0;
            boolean goesOn = true;
            for (int number = 0; goesOn && number < ENTRY_LIMIT; number++) {
                if (!readEntry(text, number)) {
                    return false;
                }
                count = number + 1;
                goesOn = text.take(';');
            }
            return text.isAtEnd() && !goesOn;
        }

        private boolean readEntry(Text text, int number) {
            int deepest = deepestLevel(number);
            int level = 0;
            while (level < deepest && text.take('.')) {
                level++;
            }
            levels[number] = level;
            if (number > 0 && text.take('*')) {
                return readSource(text, number);
            }
            sources[number] = NONE;
            return readNewItem(text, number);
        }

        private int deepestLevel(int number) {
            if (number == 0) {
                return 0;
            }
            return isClone(number - 1) ? levels[number - 1] : levels[number - 1] + 1;
        }

        private boolean readSource(Text text, int number) {
            int start = text.position();
            int source = text.takeNumber(3);
            if (source >= number) {
                text.goTo(start);
                return false;
            }
            sources[number] = source;
            return source != NONE;
        }

        private boolean readNewItem(Text text, int number) {
            nameLengths[number] = text.takeLetters(names, number * NAME_LIMIT);
            if (nameLengths[number] == 0) {
                return false;
            }
            boolean hasDay = text.take('@');
            days[number] = hasDay ? text.takeNumber(4) : NO_DAY;
            if (days[number] == NONE) {
                return false;
            }
            boolean hasValue = text.take('=');
            values[number] = hasValue ? text.takeValue() : 0;
            if (values[number] == NONE) {
                return false;
            }
            done[number] = (hasDay || hasValue) && text.take('x');
            return true;
        }

        /** An entry of the level 0 goes below the item for which the text is loaded. */
        int parentFor(int number, int item) {
            for (int before = number - 1; before >= 0; before--) {
                if (levels[before] == levels[number] - 1) {
                    return items[before];
                }
            }
            return item;
        }

        int itemToClone(int number) {
            int source = sources[number];
            return source < 0 ? ROOT : items[source];
        }

        /** Makes the item if the entry is not a clone. */
        int itemFor(Tree tree, int number) {
            if (isClone(number)) {
                items[number] = itemToClone(number);
            } else {
                int item = tree.makeItem(names, number * NAME_LIMIT, nameLengths[number]);
                tree.setDay(item, days[number]);
                tree.setValue(item, values[number]);
                tree.setDone(item, done[number]);
                items[number] = item;
            }
            return items[number];
        }
    }

    /** The lines as they are shown. The row 0 is the hoisted item; the row of a line is the line plus 1. */
    private static final class Lines {
        private static final int ROW_LIMIT = PLACE_LIMIT + 1;
        /** Each place is looked at once, and each row is left once. */
        private static final int STEP_LIMIT = ROW_LIMIT * 2;

        private final int[] items = new int[ROW_LIMIT];
        private final int[] rowsAbove = new int[ROW_LIMIT];
        private final int[] indexes = new int[ROW_LIMIT];
        private final int[] depths = new int[ROW_LIMIT];
        private final int[] nextIndexes = new int[ROW_LIMIT];
        private int rows = 0;

        /** Shown are the items that may have lines, open those below which there may be some. */
        void find(Tree tree, int hoisted, long shown, long open) {
            rows = 0;
            putRow(hoisted, NONE, 0, -1);
            long opened = with(open, hoisted, true);
            int row = 0;
            for (int step = 0; step < STEP_LIMIT && row >= 0; step++) {
                int item = items[row];
                int index = nextIndexes[row];
                if (contains(opened, item) && index < tree.childCount(item)) {
                    nextIndexes[row] = index + 1;
                    int child = tree.childAt(item, index);
                    if (contains(shown, child) && rows < ROW_LIMIT) {
                        putRow(child, row, index, depths[row] + 1);
                        row = rows - 1;
                    }
                } else {
                    row = rowsAbove[row];
                }
            }
        }

        private void putRow(int item, int rowAbove, int index, int depth) {
            items[rows] = item;
            rowsAbove[rows] = rowAbove;
            indexes[rows] = index;
            depths[rows] = depth;
            nextIndexes[rows] = 0;
            rows++;
        }

        int size() {
            return rows - 1;
        }

        int itemOf(int line) {
            return items[line + 1];
        }

        int depthOf(int line) {
            return depths[line + 1];
        }

        int lineAbove(int line) {
            return rowsAbove[line + 1] - 1;
        }

        int itemAbove(int line) {
            return items[rowsAbove[line + 1]];
        }

        int indexIn(int line) {
            return indexes[line + 1];
        }

        int pathLength(Tree tree, int line) {
            int length = depthOf(line);
            int row = line + 1;
            for (int step = depthOf(line); step >= 0; step--) {
                length += tree.nameLength(items[row]);
                row = rowsAbove[row];
            }
            return length;
        }

        /** Looks from the end of the path, as the way up is known. */
        char pathSign(Tree tree, int line, int index) {
            int start = pathLength(tree, line) + 1;
            int row = line + 1;
            for (int step = depthOf(line); step >= 0; step--) {
                start -= tree.nameLength(items[row]) + 1;
                if (index >= start) {
                    return tree.letterAt(items[row], index - start);
                }
                if (index == start - 1) {
                    return '/';
                }
                row = rowsAbove[row];
            }
            return '/';
        }
    }
}
