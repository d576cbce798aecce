import java.math.BigInteger;
import java.util.ArrayList;
import java.util.List;
import java.util.function.Consumer;

/**
 * The edges that the document names under UNDO and EXCEPTIONS, and in promises 1, 23 and 24; the words
 * over each function are the document's.
 */
public final class EdgeUndoTest {

    /** The values that digest() mixes: without members, and more for each that has joined. */
    private static final int VALUES = 4 + 32 * 10 + 4 * 6 + 8;
    private static final int VALUES_OF_ONE = 2 + 4 * 4;

    public static void main(String[] args) {
        emptyAtFirst();
        keepsTheLatestFour();
        emptyAgain();
        savesWhatChangesNothing();
        undoIsNotUndoable();
        asksSaveNothing();
        refusedCallsSaveNothing();
        restoresTheWholeState();
        restoresThroughTheRing();
        mixesTheStack();
        mixesEveryMember();
        wrapsAround();
        Check.end();
    }

    /** digest() less what the number of saved states adds to it, so that it tells the state alone. */
    private static long stateOf(StripeTrees trees, int saved, int joined) {
        long weight = 1;
        for (int i = 1; i < VALUES + VALUES_OF_ONE * joined; i++) {
            weight *= 31;
        }
        return trees.digest() - weight * saved;
    }

    /** "an empty undo stack" */
    private static void emptyAtFirst() {
        StripeTrees trees = new StripeTrees();
        Check.wrongState(trees, "undo() at first", trees::undo);
        Check.wrongState(trees, "undo() again", trees::undo);
        trees.repair();
        Check.due("undo() of one", trees.undo(), 0);
        Check.wrongState(trees, "undo() of none", trees::undo);
    }

    /** "The stack keeps the latest 4 saved states and drops older ones." */
    private static void keepsTheLatestFour() {
        for (int calls = 0; calls <= 14; calls++) {
            StripeTrees trees = new StripeTrees();
            for (int call = 0; call < calls; call++) {
                trees.tick(1 + call);
            }
            int kept = Math.min(calls, 4);
            for (int left = kept - 1; left >= 0; left--) {
                Check.due("undo() after " + calls + " calls", trees.undo(), left);
                int before = calls - kept + left;
                Check.due("time() then", trees.time(), before * (before + 1) / 2);
            }
            Check.wrongState(trees, "undo() beyond the " + kept + " kept", trees::undo);
        }
    }

    private static void emptyAgain() {
        StripeTrees trees = new StripeTrees();
        for (int round = 1; round <= 9; round++) {
            for (int call = 0; call < round; call++) {
                trees.tick(1);
            }
            for (int left = Math.min(round, 4) - 1; left >= 0; left--) {
                Check.due("undo() in round " + round, trees.undo(), left);
            }
            Check.wrongState(trees, "undo() in round " + round, trees::undo);
        }
        // In round n, n - 4 ticks are out of reach, if there are so many.
        Check.due("time() in the end", trees.time(), 1 + 2 + 3 + 4 + 5);
    }

    private static void saved(String what, Consumer<StripeTrees> call) {
        StripeTrees trees = new StripeTrees();
        trees.join(0, 1, 0);
        trees.undo();
        Check.due("one member", trees.join(0, 1, 0), 4);
        long before = stateOf(trees, 1, 1);
        call.accept(trees);
        Check.due(what + " changes nothing", stateOf(trees, 2, 1), before);
        Check.due("undo() of " + what, trees.undo(), 1);
        Check.due("the state after undo() of " + what, stateOf(trees, 1, 1), before);
        Check.due("undo() of the join", trees.undo(), 0);
        Check.due("nobody", trees.count(0), 0);
    }

    /** "saves the whole state .. when it ends normally, also if it changes nothing" */
    private static void savesWhatChangesNothing() {
        saved("setBound", trees -> trees.setBound(0, 1));
        saved("setSource", trees -> trees.setSource(2));
        saved("setDelay", trees -> trees.setDelay(3));
        saved("repair", StripeTrees::repair);
        saved("rejoin", trees -> trees.rejoin(0, 3));
    }

    private static void undoIsNotUndoable() {
        StripeTrees trees = new StripeTrees();
        for (int call = 0; call < 3; call++) {
            trees.tick(10);
        }
        Check.due("three are saved", trees.undo(), 2);
        Check.due("undo() saves nothing", trees.undo(), 1);
        Check.due("it goes back, not to and fro", trees.time(), 10);
        Check.due("undo()", trees.undo(), 0);
        Check.wrongState(trees, "undo()", trees::undo);
    }

    private static void asksSaveNothing() {
        StripeTrees trees = Scenes.cutOff();
        trees.tick(1);
        long before = trees.digest();
        for (int member = 0; member < 3; member++) {
            for (int stripe = 0; stripe < 4; stripe++) {
                trees.parent(member, stripe);
                trees.depth(member, stripe);
                trees.child(member, stripe, 0);
                trees.subtree(member, stripe);
                trees.hasRoom(member, stripe);
                trees.ranksBefore(member, (member + 1) % 3, stripe);
                trees.stripe(stripe, member);
            }
            trees.member(member, 5);
            trees.harm(member);
            trees.pieces(member);
            trees.count(member);
            trees.time();
        }
        Check.due("digest() after asking", trees.digest(), before);
        Check.due("undo() takes the tick back", trees.undo(), 3);
        Check.due("time()", trees.time(), 0);
    }

    /** Calls of all methods that are undoable: refused where 0 and 1 have joined, 1 has failed, and 9 is not there. */
    private static List<Consumer<StripeTrees>> refusedCalls() {
        List<Consumer<StripeTrees>> calls = new ArrayList<>();
        calls.add(t -> t.join(32, 0, 0));
        calls.add(t -> t.join(-1, 0, 0));
        calls.add(t -> t.join(9, 9, 0));
        calls.add(t -> t.join(9, -1, 0));
        calls.add(t -> t.join(9, 0, 4));
        calls.add(t -> t.join(9, 0, -1));
        calls.add(t -> t.join(0, 8, 0));
        calls.add(t -> t.leave(32));
        calls.add(t -> t.leave(9));
        calls.add(t -> t.fail(-1));
        calls.add(t -> t.fail(9));
        calls.add(t -> t.fail(1));
        calls.add(t -> t.setBound(100, 0));
        calls.add(t -> t.setBound(0, 9));
        calls.add(t -> t.setBound(0, -1));
        calls.add(t -> t.setBound(9, 0));
        calls.add(t -> t.setSource(0));
        calls.add(t -> t.setSource(9));
        calls.add(t -> t.setDelay(0));
        calls.add(t -> t.setDelay(21));
        calls.add(t -> t.rejoin(32, 0));
        calls.add(t -> t.rejoin(0, 4));
        calls.add(t -> t.rejoin(0, -1));
        calls.add(t -> t.rejoin(9, 0));
        calls.add(t -> t.tick(0));
        calls.add(t -> t.tick(201));
        return calls;
    }

    private static boolean isRefused(StripeTrees trees, Consumer<StripeTrees> call) {
        try {
            call.accept(trees);
            return false;
        } catch (RuntimeException e) {
            return true;
        }
    }

    /** "A call that throws an exception changes nothing." */
    private static void refusedCallsSaveNothing() {
        List<Consumer<StripeTrees>> calls = refusedCalls();
        for (int i = 0; i < calls.size(); i++) {
            StripeTrees trees = Scenes.four();
            trees.fail(1);
            StripeTrees twin = Scenes.four();
            twin.fail(1);
            Check.due("call " + i + " is refused", isRefused(trees, calls.get(i)), true);
            Check.due("call " + i + ": digest()", trees.digest(), twin.digest());
            for (int left = 3; left >= 0; left--) {
                Check.due("call " + i + ": undo()", trees.undo(), left);
                twin.undo();
                Check.due("call " + i + ": digest() then", trees.digest(), twin.digest());
            }
            Check.wrongState(trees, "call " + i + ": undo()", trees::undo);
        }
        onAnEmptyStack();
    }

    private static void onAnEmptyStack() {
        StripeTrees trees = new StripeTrees();
        trees.join(0, 4, 0);
        trees.join(1, 4, 1);
        trees.fail(1);
        for (int call = 0; call < 4; call++) {
            trees.repair();
        }
        for (int left = 3; left >= 0; left--) {
            trees.undo();
        }
        long before = trees.digest();
        List<Consumer<StripeTrees>> calls = refusedCalls();
        for (int i = 0; i < calls.size(); i++) {
            Check.due("call " + i + " is refused", isRefused(trees, calls.get(i)), true);
        }
        Check.due("digest() after them", trees.digest(), before);
        Check.wrongState(trees, "undo()", trees::undo);
    }

    private static void restored(String what, Consumer<StripeTrees> call) {
        StripeTrees trees = Scenes.four();
        trees.join(20, 8, 2);
        trees.tick(5);
        trees.fail(2);
        long before = stateOf(trees, 4, 5);
        call.accept(trees);
        Check.due("undo() of " + what, trees.undo(), 3);
        Check.due("the state after undo() of " + what, stateOf(trees, 3, 5), before);
    }

    /** "Restores the latest saved state": members, trees, failures, F, delay, time and counts */
    private static void restoresTheWholeState() {
        restored("join", trees -> trees.join(31, 8, 0));
        restored("leave", trees -> trees.leave(0));
        restored("leave of the failed one", trees -> trees.leave(2));
        restored("fail", trees -> trees.fail(3));
        restored("setBound", trees -> trees.setBound(3, 0));
        restored("setSource", trees -> trees.setSource(1));
        restored("setSource to the greatest", trees -> trees.setSource(8));
        restored("setDelay", trees -> trees.setDelay(20));
        restored("rejoin", trees -> trees.rejoin(0, 1));
        restored("tick before the notice", trees -> trees.tick(2));
        restored("tick with the notice", trees -> trees.tick(3));
        restored("tick beyond it", trees -> trees.tick(200));
    }

    /** More than four calls, some undone, then more: each state comes back as it was. */
    private static void restoresThroughTheRing() {
        for (int first = 0; first <= 6; first++) {
            for (int undone = 0; undone <= Math.min(first, 4); undone++) {
                for (int more = 0; more <= 5; more++) {
                    ring(first, undone, more);
                }
            }
        }
    }

    private static void ring(int first, int undone, int more) {
        StripeTrees trees = new StripeTrees();
        List<Integer> times = new ArrayList<>();
        for (int call = 0; call < first; call++) {
            times.add(trees.time());
            trees.tick(1 + call);
        }
        for (int call = 0; call < undone; call++) {
            trees.undo();
            Check.due("time() after undo", trees.time(), times.remove(times.size() - 1));
        }
        int kept = Math.min(first, 4) - undone;
        for (int call = 0; call < more; call++) {
            times.add(trees.time());
            trees.tick(50 + call);
            kept = Math.min(kept + 1, 4);
        }
        for (int left = kept - 1; left >= 0; left--) {
            Check.due("undo() after " + first + ", " + undone + ", " + more, trees.undo(), left);
            Check.due("time() then", trees.time(), times.remove(times.size() - 1));
        }
        Check.wrongState(trees, "undo() after " + first + ", " + undone + ", " + more, trees::undo);
    }

    private static long hashOf(List<Integer> values) {
        BigInteger hash = BigInteger.valueOf(12560);
        for (int value : values) {
            hash = hash.multiply(BigInteger.valueOf(31)).add(BigInteger.valueOf(value));
        }
        // longValue keeps the lowest 64 bits, which is what wraps in long arithmetic.
        return hash.longValue();
    }

    /** "the number of states on the undo stack, the time, F, the delay": 0 to 4 states, and after more calls */
    private static void mixesTheStack() {
        for (int calls = 0; calls <= 6; calls++) {
            StripeTrees trees = new StripeTrees();
            for (int call = 0; call < calls; call++) {
                trees.repair();
            }
            List<Integer> values = new ArrayList<>(List.of(Math.min(calls, 4), 0, 2, 3));
            while (values.size() < VALUES) {
                values.add(0);
            }
            Check.due("digest() after " + calls + " calls", trees.digest(), hashOf(values));
        }
        int[][] settings = {{1, 1, 1}, {8, 20, 200}, {2, 3, 1}};
        for (int[] setting : settings) {
            StripeTrees trees = new StripeTrees();
            trees.setSource(setting[0]);
            trees.setDelay(setting[1]);
            trees.tick(setting[2]);
            List<Integer> values = new ArrayList<>(List.of(3, setting[2], setting[0], setting[1]));
            while (values.size() < VALUES) {
                values.add(0);
            }
            values.set(VALUES - 7, setting[2]);
            Check.due("digest() with F, delay and time", trees.digest(), hashOf(values));
        }
    }

    private static void addMember(List<Integer> values, StripeTrees trees, int member) {
        for (int what = 0; what < 10; what++) {
            values.add(trees.member(member, what));
        }
        if (trees.member(member, 0) == 0) {
            return;
        }
        values.add(trees.harm(member));
        values.add(trees.pieces(member));
        for (int stripe = 0; stripe < 4; stripe++) {
            values.add(trees.parent(member, stripe));
            values.add(trees.depth(member, stripe));
            values.add(trees.subtree(member, stripe));
            values.add(trees.hasRoom(member, stripe) ? 1 : 0);
        }
    }

    /** "for each member member() of 0 to 9, and, if it has joined, harm(), pieces(), and for each stripe .." */
    private static void mixesEveryMember() {
        for (int joined : new int[] {0, 1, 16, 31, 32}) {
            List<Integer> values = new ArrayList<>(List.of(4, 4, 5, 9));
            for (int member = 0; member < 32; member++) {
                // An object of its own for each member, as all the questions are too many for one.
                addMember(values, crowd(joined), member);
            }
            StripeTrees trees = crowd(joined);
            for (int stripe = 0; stripe < 4; stripe++) {
                for (int what = 0; what < 6; what++) {
                    values.add(trees.stripe(stripe, what));
                }
            }
            for (int what = 0; what < 8; what++) {
                values.add(trees.count(what));
            }
            Check.due("values of " + joined + " members", values.size(), VALUES + VALUES_OF_ONE * joined);
            Check.due("digest() of " + joined + " members", trees.digest(), hashOf(values));
        }
    }

    private static StripeTrees crowd(int joined) {
        StripeTrees trees = new StripeTrees();
        trees.setSource(5);
        trees.setDelay(9);
        for (int i = 0; i < joined; i++) {
            trees.join(31 - i, i % 4, i % 3);
        }
        if (joined > 0) {
            trees.fail(31);
        }
        trees.tick(1);
        trees.tick(2);
        trees.tick(1);
        trees.repair();
        return trees;
    }

    /** "(long arithmetic, overflow wraps)" */
    private static void wrapsAround() {
        BigInteger hash = BigInteger.valueOf(12560);
        int mixed = 0;
        while (hash.bitLength() < 64) {
            hash = hash.multiply(BigInteger.valueOf(31)).add(BigInteger.ONE);
            mixed++;
        }
        Check.due("the hash wraps within the values of a new object", mixed < VALUES, true);
        boolean below = false;
        boolean above = false;
        for (int calls = 0; calls <= 20; calls++) {
            StripeTrees trees = new StripeTrees();
            for (int call = 0; call < calls; call++) {
                trees.tick(1);
            }
            List<Integer> values = new ArrayList<>(List.of(Math.min(calls, 4), calls, 2, 3));
            while (values.size() < VALUES) {
                values.add(0);
            }
            values.set(VALUES - 7, calls);
            long due = hashOf(values);
            below |= due < 0;
            above |= due >= 0;
            Check.due("digest() at " + calls, trees.digest(), due);
        }
        Check.due("some hashes are negative and some are not", below && above, true);
    }
}
