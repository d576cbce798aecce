/**
 * A multicast by four stripes over four trees of the same members. The numbered promises of
 * ../shared/DOC.md say what each public method does; README.md tells how to use it.
 */
public final class StripeTrees {

    public static final int NONE = -1;
    public static final int SOURCE = 100;

    private static final int MEMBERS = 32;
    private static final int STRIPES = 4;
    private static final int MOST_CHILDREN = 8;
    private static final int MOST_DELAY = 20;
    private static final int MOST_TICKS = 200;
    private static final int NEEDED_PIECES = 3;
    private static final int KEPT_STATES = 4;
    private static final int FIRST_CHILDREN = 2;
    private static final int FIRST_DELAY = 3;
    private static final long FIRST_HASH = 12560L;

    // The values of a member, numbered as promise 12 numbers them.
    private static final int JOINED = 0;
    private static final int BOUND = 1;
    private static final int PREFERRED = 2;
    private static final int FAILED = 3;
    private static final int NOTICE_TIME = 4;
    private static final int CHILDREN = 5;
    private static final int CHILDREN_STRIPE = 6;
    private static final int PIECES_GOT = 7;
    private static final int BLOCKS_HAD = 8;
    private static final int BLOCKS_MISSED = 9;
    private static final int VALUES = 10;

    // The values of a stripe, numbered as promise 21 numbers them.
    private static final int STRIPE_CONNECTED = 0;
    private static final int STRIPE_ORPHANS = 1;
    private static final int STRIPE_DEPTH = 2;
    private static final int STRIPE_SOURCE_CHILDREN = 3;
    private static final int STRIPE_WITH_ROOM = 4;
    private static final int STRIPE_VALUES = 6;

    // The figures: the counts, numbered as promise 22 numbers them, and behind them the rest.
    private static final int ALL_JOINED = 0;
    private static final int ALL_SENT = 1;
    private static final int ALL_PIECES = 2;
    private static final int ALL_HAD = 3;
    private static final int ALL_MISSED = 4;
    private static final int ALL_NOTICED = 5;
    private static final int ALL_PUSHED = 6;
    private static final int ALL_SPARED = 7;
    private static final int COUNTS = 8;
    private static final int TIME = 8;
    private static final int SOURCE_BOUND = 9;
    private static final int DELAY = 10;
    private static final int FIGURES = 11;

    private final Trees trees;
    private final State state;
    private final UndoStack undoStack;

    public StripeTrees() {
        trees = new Trees();
        state = trees.state;
        undoStack = new UndoStack();
    }

    // ---- members

    public int join(int member, int bound, int preferred)
            throws IndexOutOfBoundsException, IllegalArgumentException, IllegalStateException {
        requireMember(member);
        requireRange(bound, 0, MOST_CHILDREN);
        requireRange(preferred, 0, STRIPES - 1);
        if (isJoined(member)) {
            throw new IllegalStateException("the member has joined already");
        }
        undoStack.push(state);
        trees.takeIn(member, bound, preferred);
        trees.attachOrphans();
        return connectedStripes(member);
    }

    public int leave(int member) throws IndexOutOfBoundsException, IllegalStateException {
        requireMember(member);
        requireJoined(member);
        undoStack.push(state);
        int children = state.value(member, CHILDREN);
        trees.takeOut(member);
        trees.attachOrphans();
        return children;
    }

    public int fail(int member) throws IndexOutOfBoundsException, IllegalStateException {
        requireMember(member);
        requireJoined(member);
        if (hasFailed(member)) {
            throw new IllegalStateException("the member has failed already");
        }
        undoStack.push(state);
        int noticed = state.figure(TIME) + state.figure(DELAY);
        state.setValue(member, FAILED, 1);
        state.setValue(member, NOTICE_TIME, noticed);
        return noticed;
    }

    public int setBound(int member, int bound)
            throws IndexOutOfBoundsException, IllegalArgumentException, IllegalStateException {
        requireMember(member);
        requireRange(bound, 0, MOST_CHILDREN);
        requireJoined(member);
        undoStack.push(state);
        int previous = state.value(member, BOUND);
        state.setValue(member, BOUND, bound);
        trees.cutChildren(member, state.value(member, CHILDREN_STRIPE), bound);
        trees.attachOrphans();
        return previous;
    }

    public int setSource(int children) throws IllegalArgumentException {
        requireRange(children, 1, MOST_CHILDREN);
        undoStack.push(state);
        int previous = state.figure(SOURCE_BOUND);
        state.setFigure(SOURCE_BOUND, children);
        for (int stripe = 0; stripe < STRIPES; stripe++) {
            trees.cutChildren(SOURCE, stripe, children);
        }
        trees.attachOrphans();
        return previous;
    }

    public int setDelay(int ticks) throws IllegalArgumentException {
        requireRange(ticks, 1, MOST_DELAY);
        undoStack.push(state);
        int previous = state.figure(DELAY);
        state.setFigure(DELAY, ticks);
        return previous;
    }

    public int repair() {
        undoStack.push(state);
        trees.attachOrphans();
        int orphans = 0;
        for (int stripe = 0; stripe < STRIPES; stripe++) {
            orphans += trees.orphans(stripe);
        }
        return orphans;
    }

    public int rejoin(int member, int stripe) throws IndexOutOfBoundsException, IllegalStateException {
        requireMember(member);
        requireStripe(stripe);
        requireJoined(member);
        undoStack.push(state);
        state.moveTo(member, stripe, NONE);
        trees.attach(member, stripe);
        return state.parentOf(member, stripe);
    }

    // ---- time

    public int tick(int ticks) throws IllegalArgumentException {
        requireRange(ticks, 1, MOST_TICKS);
        undoStack.push(state);
        int missed = 0;
        int alike = 1;
        for (int left = ticks; left > 0; left -= alike) {
            state.addToFigure(TIME, 1);
            noticeFailures();
            // Nothing changes until the next failure is noticed, so the blocks before it are alike.
            alike = Math.max(1, Math.min(left, 1 + quietTicks()));
            missed += sendBlocks(alike);
            state.addToFigure(TIME, alike - 1);
        }
        return missed;
    }

    public int time() {
        return state.figure(TIME);
    }

    // ---- values

    public int member(int member, int what) throws IndexOutOfBoundsException, IllegalArgumentException {
        requireMember(member);
        requireRange(what, 0, VALUES - 1);
        return state.value(member, what);
    }

    public int parent(int member, int stripe) throws IndexOutOfBoundsException, IllegalStateException {
        requireMember(member);
        requireStripe(stripe);
        requireJoined(member);
        return state.parentOf(member, stripe);
    }

    public int depth(int member, int stripe) throws IndexOutOfBoundsException, IllegalStateException {
        requireMember(member);
        requireStripe(stripe);
        requireJoined(member);
        return trees.depthOf(member, stripe);
    }

    public int child(int member, int stripe, int index)
            throws IndexOutOfBoundsException, IllegalArgumentException, IllegalStateException {
        requirePlace(member);
        requireStripe(stripe);
        if (index < 0) {
            throw new IllegalArgumentException("the index is negative");
        }
        requireJoinedPlace(member);
        return trees.childAt(member, stripe, index);
    }

    public int subtree(int member, int stripe) throws IndexOutOfBoundsException, IllegalStateException {
        requireMember(member);
        requireStripe(stripe);
        requireJoined(member);
        return trees.subtreeSize(member, stripe);
    }

    public boolean hasRoom(int member, int stripe) throws IndexOutOfBoundsException, IllegalStateException {
        requirePlace(member);
        requireStripe(stripe);
        requireJoinedPlace(member);
        return trees.isRoomAt(member, stripe);
    }

    public boolean ranksBefore(int first, int second, int stripe)
            throws IndexOutOfBoundsException, IllegalArgumentException, IllegalStateException {
        requireMember(first);
        requireMember(second);
        requireStripe(stripe);
        if (first == second) {
            throw new IllegalArgumentException("a member does not rank before itself");
        }
        requireJoined(first);
        requireJoined(second);
        return trees.isBefore(first, second, stripe);
    }

    public int harm(int member) throws IndexOutOfBoundsException, IllegalStateException {
        requireMember(member);
        requireJoined(member);
        // Only what goes through the member can be lost: pieces of the one stripe where it has children.
        int stripe = state.value(member, CHILDREN_STRIPE);
        int harmed = 0;
        for (int other = 0; other < MEMBERS; other++) {
            if (other != member && trees.isUnder(other, member, stripe) && trees.getsPiece(other, stripe)) {
                harmed++;
            }
        }
        return harmed;
    }

    public int pieces(int member) throws IndexOutOfBoundsException, IllegalStateException {
        requireMember(member);
        requireJoined(member);
        return trees.piecesOf(member);
    }

    public int stripe(int stripe, int what) throws IndexOutOfBoundsException, IllegalArgumentException {
        requireStripe(stripe);
        requireRange(what, 0, STRIPE_VALUES - 1);
        switch (what) {
            case STRIPE_CONNECTED:
                return trees.connected(stripe);
            case STRIPE_ORPHANS:
                return trees.orphans(stripe);
            case STRIPE_DEPTH:
                return trees.greatestDepth(stripe);
            case STRIPE_SOURCE_CHILDREN:
                return trees.childrenAt(SOURCE, stripe);
            case STRIPE_WITH_ROOM:
                return trees.withRoom(stripe);
            default:
                return trees.withChildren(stripe);
        }
    }

    public int count(int what) throws IllegalArgumentException {
        requireRange(what, 0, COUNTS - 1);
        return state.figure(what);
    }

    // ---- undo and checksum

    public int undo() throws IllegalStateException {
        if (undoStack.size() == 0) {
            throw new IllegalStateException("the undo stack is empty");
        }
        undoStack.popInto(state);
        return undoStack.size();
    }

    public long digest() {
        long hash = mixed(FIRST_HASH, undoStack.size());
        hash = mixed(hash, state.figure(TIME));
        hash = mixed(hash, state.figure(SOURCE_BOUND));
        hash = mixed(hash, state.figure(DELAY));
        for (int member = 0; member < MEMBERS; member++) {
            hash = mixedWithMember(hash, member);
        }
        for (int stripe = 0; stripe < STRIPES; stripe++) {
            for (int what = 0; what < STRIPE_VALUES; what++) {
                hash = mixed(hash, stripe(stripe, what));
            }
        }
        for (int what = 0; what < COUNTS; what++) {
            hash = mixed(hash, state.figure(what));
        }
        return hash;
    }

    private long mixedWithMember(long before, int member) {
        long hash = before;
        for (int what = 0; what < VALUES; what++) {
            hash = mixed(hash, state.value(member, what));
        }
        if (!isJoined(member)) {
            return hash;
        }
        hash = mixed(hash, harm(member));
        hash = mixed(hash, trees.piecesOf(member));
        for (int stripe = 0; stripe < STRIPES; stripe++) {
            hash = mixed(hash, state.parentOf(member, stripe));
            hash = mixed(hash, trees.depthOf(member, stripe));
            hash = mixed(hash, trees.subtreeSize(member, stripe));
            hash = mixed(hash, trees.isRoomAt(member, stripe) ? 1 : 0);
        }
        return hash;
    }

    private static long mixed(long hash, long value) {
        return 31L * hash + value;
    }

    private boolean isJoined(int member) {
        return state.value(member, JOINED) == 1;
    }

    private boolean hasFailed(int member) {
        return state.value(member, FAILED) == 1;
    }

    private int connectedStripes(int member) {
        int connected = 0;
        for (int stripe = 0; stripe < STRIPES; stripe++) {
            if (trees.depthOf(member, stripe) != NONE) {
                connected++;
            }
        }
        return connected;
    }

    private void noticeFailures() {
        for (int member = 0; member < MEMBERS; member++) {
            if (hasFailed(member) && state.value(member, NOTICE_TIME) == state.figure(TIME)) {
                trees.takeOut(member);
                trees.attachOrphans();
                state.addToFigure(ALL_NOTICED, 1);
            }
        }
    }

    /** How many ticks after this one pass before the tick in which the next failure is noticed. */
    private int quietTicks() {
        int quiet = MOST_TICKS;
        for (int member = 0; member < MEMBERS; member++) {
            if (hasFailed(member)) {
                quiet = Math.min(quiet, state.value(member, NOTICE_TIME) - state.figure(TIME) - 1);
            }
        }
        return quiet;
    }

    /** Sends as many blocks by the trees as they are, and returns how many of them were missed. */
    private int sendBlocks(int blocks) {
        int missed = 0;
        state.addToFigure(ALL_SENT, blocks);
        for (int member = 0; member < MEMBERS; member++) {
            if (isJoined(member)) {
                missed += receiveBlocks(member, blocks);
            }
        }
        return missed;
    }

    private int receiveBlocks(int member, int blocks) {
        int got = trees.piecesOf(member);
        state.addToValue(member, PIECES_GOT, got * blocks);
        state.addToFigure(ALL_PIECES, got * blocks);
        if (got >= NEEDED_PIECES) {
            state.addToValue(member, BLOCKS_HAD, blocks);
            state.addToFigure(ALL_HAD, blocks);
            return 0;
        }
        if (hasFailed(member)) {
            return 0;
        }
        state.addToValue(member, BLOCKS_MISSED, blocks);
        state.addToFigure(ALL_MISSED, blocks);
        return blocks;
    }

    private static void requireMember(int member) {
        if (member < 0 || member >= MEMBERS) {
            throw new IndexOutOfBoundsException("there is no such member");
        }
    }

    private static void requirePlace(int place) {
        if (place != SOURCE) {
            requireMember(place);
        }
    }

    private static void requireStripe(int stripe) {
        if (stripe < 0 || stripe >= STRIPES) {
            throw new IndexOutOfBoundsException("there is no such stripe");
        }
    }

    private static void requireRange(int value, int least, int greatest) {
        if (value < least || value > greatest) {
            throw new IllegalArgumentException("a value is out of range");
        }
    }

    private void requireJoined(int member) {
        if (!isJoined(member)) {
            throw new IllegalStateException("the member has not joined");
        }
    }

    private void requireJoinedPlace(int place) {
        if (place != SOURCE) {
            requireJoined(place);
        }
    }

    /**
     * All that undo restores, in one row, so that saving and restoring copy it whole: the values
     * of the members, the parents in each stripe, and the figures.
     */
    private static final class State {

        private static final int PARENTS_AT = VALUES * MEMBERS;
        private static final int FIGURES_AT = PARENTS_AT + STRIPES * MEMBERS;
        static final int LENGTH = FIGURES_AT + FIGURES;

        private final int[] cells;

        State() {
            cells = new int[LENGTH];
            for (int cell = PARENTS_AT; cell < FIGURES_AT; cell++) {
                cells[cell] = NONE;
            }
            cells[FIGURES_AT + SOURCE_BOUND] = FIRST_CHILDREN;
            cells[FIGURES_AT + DELAY] = FIRST_DELAY;
        }

        int value(int member, int what) {
            if (member < 0 || member >= MEMBERS || what < 0 || what >= VALUES) {
                return 0;
            }
            return cells[what * MEMBERS + member];
        }

        void setValue(int member, int what, int to) {
            if (member < 0 || member >= MEMBERS || what < 0 || what >= VALUES) {
                return;
            }
            cells[what * MEMBERS + member] = to;
        }

        void addToValue(int member, int what, int more) {
            setValue(member, what, value(member, what) + more);
        }

        int parentOf(int member, int stripe) {
            if (member < 0 || member >= MEMBERS || stripe < 0 || stripe >= STRIPES) {
                return NONE;
            }
            return cells[PARENTS_AT + stripe * MEMBERS + member];
        }

        /** The only way to another parent, so that the numbers of children stay right. */
        void moveTo(int member, int stripe, int parent) {
            if (member < 0 || member >= MEMBERS || stripe < 0 || stripe >= STRIPES) {
                return;
            }
            int cell = PARENTS_AT + stripe * MEMBERS + member;
            addChildren(cells[cell], stripe, -1);
            cells[cell] = parent;
            addChildren(parent, stripe, 1);
        }

        private void addChildren(int parent, int stripe, int more) {
            int children = value(parent, CHILDREN) + more;
            setValue(parent, CHILDREN, children);
            setValue(parent, CHILDREN_STRIPE, children == 0 ? NONE : stripe);
        }

        int figure(int which) {
            if (which < 0 || which >= FIGURES) {
                return 0;
            }
            return cells[FIGURES_AT + which];
        }

        void setFigure(int which, int to) {
            if (which < 0 || which >= FIGURES) {
                return;
            }
            cells[FIGURES_AT + which] = to;
        }

        void addToFigure(int which, int more) {
            setFigure(which, figure(which) + more);
        }

        void copyTo(int[] row, int at) {
            if (at >= 0 && at <= row.length - LENGTH) {
                System.arraycopy(cells, 0, row, at, LENGTH);
            }
        }

        void copyFrom(int[] row, int at) {
            if (at >= 0 && at <= row.length - LENGTH) {
                System.arraycopy(row, at, cells, 0, LENGTH);
            }
        }
    }

    /** The latest saved states, in a ring of rows that are made once. */
    private static final class UndoStack {

        private final int[] rows;
        private int saved;
        private int next;

        UndoStack() {
            rows = new int[KEPT_STATES * State.LENGTH];
            saved = 0;
            next = 0;
        }

        int size() {
            return saved;
        }

        void push(State state) {
            state.copyTo(rows, next * State.LENGTH);
            next = Math.floorMod(next + 1, KEPT_STATES);
            saved = Math.min(saved + 1, KEPT_STATES);
        }

        void popInto(State state) {
            if (saved == 0) {
                return;
            }
            next = Math.floorMod(next - 1, KEPT_STATES);
            saved--;
            state.copyFrom(rows, next * State.LENGTH);
        }
    }

    /** The four trees: who is below whom, who ranks before whom, and how orphans are attached. */
    private static final class Trees {

        final State state;

        Trees() {
            state = new State();
        }

        int depthOf(int member, int stripe) {
            int place = member;
            for (int steps = 0; steps <= MEMBERS; steps++) {
                if (place == SOURCE) {
                    return steps;
                }
                if (place == NONE) {
                    return NONE;
                }
                place = state.parentOf(place, stripe);
            }
            return NONE;
        }

        boolean isUnder(int member, int top, int stripe) {
            int place = member;
            for (int steps = 0; steps <= MEMBERS; steps++) {
                if (place == top) {
                    return true;
                }
                if (place == SOURCE || place == NONE) {
                    return false;
                }
                place = state.parentOf(place, stripe);
            }
            return false;
        }

        boolean getsPiece(int member, int stripe) {
            int place = member;
            for (int steps = 0; steps <= MEMBERS; steps++) {
                if (place == SOURCE) {
                    return true;
                }
                if (place == NONE || state.value(place, FAILED) == 1) {
                    return false;
                }
                place = state.parentOf(place, stripe);
            }
            return false;
        }

        int piecesOf(int member) {
            int pieces = 0;
            for (int stripe = 0; stripe < STRIPES; stripe++) {
                if (getsPiece(member, stripe)) {
                    pieces++;
                }
            }
            return pieces;
        }

        int childrenAt(int place, int stripe) {
            int children = 0;
            for (int member = 0; member < MEMBERS; member++) {
                if (state.parentOf(member, stripe) == place) {
                    children++;
                }
            }
            return children;
        }

        int childAt(int place, int stripe, int index) {
            int before = 0;
            for (int member = 0; member < MEMBERS; member++) {
                if (state.parentOf(member, stripe) == place) {
                    if (before == index) {
                        return member;
                    }
                    before++;
                }
            }
            return NONE;
        }

        int subtreeSize(int top, int stripe) {
            int size = 0;
            for (int member = 0; member < MEMBERS; member++) {
                if (isUnder(member, top, stripe)) {
                    size++;
                }
            }
            return size;
        }

        boolean canBeInner(int member, int stripe) {
            return state.value(member, BOUND) > 0
                    && (state.value(member, CHILDREN) == 0 || state.value(member, CHILDREN_STRIPE) == stripe);
        }

        boolean isRoomAt(int place, int stripe) {
            if (place == SOURCE) {
                return childrenAt(SOURCE, stripe) < state.figure(SOURCE_BOUND);
            }
            return canBeInner(place, stripe)
                    && state.value(place, CHILDREN) < state.value(place, BOUND)
                    && depthOf(place, stripe) != NONE;
        }

        boolean isBefore(int first, int second, int stripe) {
            boolean firstPrefers = state.value(first, PREFERRED) == stripe;
            boolean secondPrefers = state.value(second, PREFERRED) == stripe;
            if (firstPrefers != secondPrefers) {
                return firstPrefers;
            }
            int firstBound = state.value(first, BOUND);
            int secondBound = state.value(second, BOUND);
            return firstBound != secondBound ? firstBound > secondBound : first < second;
        }

        int lastChild(int place, int stripe) {
            int last = NONE;
            for (int member = 0; member < MEMBERS; member++) {
                if (state.parentOf(member, stripe) == place
                        && (last == NONE || isBefore(last, member, stripe))) {
                    last = member;
                }
            }
            return last;
        }

        int firstInnerChild(int place, int stripe) {
            int first = NONE;
            for (int member = 0; member < MEMBERS; member++) {
                if (state.parentOf(member, stripe) == place && canBeInner(member, stripe)
                        && (first == NONE || isBefore(member, first, stripe))) {
                    first = member;
                }
            }
            return first;
        }

        /** The highest member with room. Nobody under an orphan is connected, so none of those has room. */
        int spareMember(int stripe) {
            int spare = NONE;
            int least = NONE;
            for (int member = 0; member < MEMBERS; member++) {
                if (isRoomAt(member, stripe)) {
                    int depth = depthOf(member, stripe);
                    if (spare == NONE || depth < least) {
                        spare = member;
                        least = depth;
                    }
                }
            }
            return spare;
        }

        void attach(int member, int stripe) {
            int orphan = member;
            int place = SOURCE;
            // Each place is a child of the one before, so none comes twice and the members bound the steps.
            for (int steps = 0; steps <= MEMBERS; steps++) {
                if (isRoomAt(place, stripe)) {
                    state.moveTo(orphan, stripe, place);
                    return;
                }
                int last = lastChild(place, stripe);
                if (last != NONE && isBefore(orphan, last, stripe) && canBeInner(orphan, stripe)) {
                    takePlace(orphan, last, stripe);
                    place = orphan;
                    orphan = last;
                } else {
                    place = firstInnerChild(place, stripe);
                    if (place == NONE) {
                        attachToSpare(orphan, stripe, spareMember(stripe));
                        return;
                    }
                }
            }
        }

        void takePlace(int orphan, int other, int stripe) {
            int place = state.parentOf(other, stripe);
            state.moveTo(other, stripe, NONE);
            state.moveTo(orphan, stripe, place);
            state.addToFigure(ALL_PUSHED, 1);
        }

        void attachToSpare(int orphan, int stripe, int spare) {
            if (spare != NONE) {
                state.moveTo(orphan, stripe, spare);
                state.addToFigure(ALL_SPARED, 1);
            }
        }

        boolean isOrphan(int member, int stripe) {
            return state.value(member, JOINED) == 1 && state.parentOf(member, stripe) == NONE;
        }

        void attachOrphans() {
            for (int stripe = 0; stripe < STRIPES; stripe++) {
                for (int member = 0; member < MEMBERS; member++) {
                    if (isOrphan(member, stripe)) {
                        attach(member, stripe);
                    }
                }
            }
        }

        void cutChildren(int place, int stripe, int most) {
            for (int left = childrenAt(place, stripe); left > most; left--) {
                state.moveTo(lastChild(place, stripe), stripe, NONE);
            }
        }

        void takeIn(int member, int bound, int preferred) {
            state.setValue(member, JOINED, 1);
            state.setValue(member, BOUND, bound);
            state.setValue(member, PREFERRED, preferred);
            state.setValue(member, NOTICE_TIME, NONE);
            state.setValue(member, CHILDREN_STRIPE, NONE);
            state.addToFigure(ALL_JOINED, 1);
        }

        void takeOut(int member) {
            for (int stripe = 0; stripe < STRIPES; stripe++) {
                cutChildren(member, stripe, 0);
                state.moveTo(member, stripe, NONE);
            }
            // Promise 12 wants 0 for every value of a member that has not joined.
            for (int what = 0; what < VALUES; what++) {
                state.setValue(member, what, 0);
            }
            state.addToFigure(ALL_JOINED, -1);
        }

        int connected(int stripe) {
            int connected = 0;
            for (int member = 0; member < MEMBERS; member++) {
                if (depthOf(member, stripe) != NONE) {
                    connected++;
                }
            }
            return connected;
        }

        int orphans(int stripe) {
            int orphans = 0;
            for (int member = 0; member < MEMBERS; member++) {
                if (isOrphan(member, stripe)) {
                    orphans++;
                }
            }
            return orphans;
        }

        int greatestDepth(int stripe) {
            int greatest = 0;
            for (int member = 0; member < MEMBERS; member++) {
                greatest = Math.max(greatest, depthOf(member, stripe));
            }
            return greatest;
        }

        int withRoom(int stripe) {
            int members = 0;
            for (int member = 0; member < MEMBERS; member++) {
                if (isRoomAt(member, stripe)) {
                    members++;
                }
            }
            return members;
        }

        int withChildren(int stripe) {
            int members = 0;
            for (int member = 0; member < MEMBERS; member++) {
                if (state.value(member, CHILDREN) > 0 && state.value(member, CHILDREN_STRIPE) == stripe) {
                    members++;
                }
            }
            return members;
        }
    }
}
