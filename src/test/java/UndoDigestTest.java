import java.util.ArrayList;
import java.util.List;

/** Promises 23 and 24: undo and digest. */
public final class UndoDigestTest {

    public static void main(String[] args) {
        everyChangeIsUndone();
        fourAreKept();
        eachStateIsItsOwn();
        lookingIsNotSaved();
        digestOfNothing();
        digestOfOne();
        Check.end();
    }

    /** The members that the changes here touch; all 32 would take more calls than an object allows. */
    private static final int[] TOUCHED = {0, 1, 2, 3, 9};

    /** What can be asked before the change can be asked again after undo, with the same answers. */
    private static void undone(String what, StripeTrees trees, Runnable change) {
        List<Integer> before = picture(trees);
        change.run();
        Check.due("undo() of " + what, trees.undo(), 3);
        List<Integer> after = picture(trees);
        Check.due("answers after undo() of " + what, after.size(), before.size());
        for (int i = 0; i < before.size() && i < after.size(); i++) {
            Check.due("answer " + i + " after undo() of " + what, after.get(i), before.get(i));
        }
    }

    private static List<Integer> picture(StripeTrees trees) {
        List<Integer> answers = new ArrayList<>();
        answers.add(trees.time());
        for (int member : TOUCHED) {
            for (int what = 0; what < 10; what++) {
                answers.add(trees.member(member, what));
            }
            for (int stripe = 0; stripe < 4 && trees.member(member, 0) == 1; stripe++) {
                answers.add(trees.parent(member, stripe));
            }
        }
        for (int stripe = 0; stripe < 4; stripe++) {
            for (int what = 0; what < 6; what++) {
                answers.add(trees.stripe(stripe, what));
            }
        }
        for (int what = 0; what < 8; what++) {
            answers.add(trees.count(what));
        }
        return answers;
    }

    private static StripeTrees busy() {
        StripeTrees trees = Scenes.four();
        trees.tick(2);
        trees.fail(1);
        return trees;
    }

    private static void everyChangeIsUndone() {
        StripeTrees[] t = new StripeTrees[9];
        for (int i = 0; i < t.length; i++) {
            t[i] = busy();
        }
        undone("join", t[0], () -> t[0].join(9, 8, 0));
        undone("leave", t[1], () -> t[1].leave(0));
        undone("fail", t[2], () -> t[2].fail(0));
        undone("setBound", t[3], () -> t[3].setBound(0, 0));
        undone("setSource", t[4], () -> t[4].setSource(1));
        undone("setDelay", t[5], () -> t[5].setDelay(9));
        Check.due("the delay is restored", t[5].setDelay(3), 3);
        undone("repair", t[6], () -> t[6].repair());
        undone("rejoin", t[7], () -> t[7].rejoin(2, 0));
        undone("tick", t[8], () -> t[8].tick(50));
        Check.due("F is restored", t[4].setSource(2), 2);
    }

    private static void fourAreKept() {
        StripeTrees trees = new StripeTrees();
        for (int delay = 4; delay < 10; delay++) {
            trees.setDelay(delay);
        }
        // Delays 3 to 9 were in force one after the other; the states with 5 to 8 are kept.
        for (int left = 3; left >= 0; left--) {
            Check.due("undo()", trees.undo(), left);
        }
        Check.wrongState(trees, "undo() of an empty stack", trees::undo);
        Check.due("the oldest state that was kept", trees.setDelay(1), 5);
        Check.due("undo() goes on after the stack was empty", trees.undo(), 0);
        Check.due("and restores", trees.setDelay(2), 5);
        Check.due("setDelay(7)", trees.setDelay(7), 2);
        Check.due("undo() is not undoable", trees.undo(), 1);
        Check.due("undo()", trees.undo(), 0);
    }

    private static void eachStateIsItsOwn() {
        // However the saved states lie in memory, each number of changes has to be undone rightly.
        for (int changes = 1; changes <= 9; changes++) {
            StripeTrees trees = new StripeTrees();
            for (int delay = 4; delay < 4 + changes; delay++) {
                trees.setDelay(delay);
            }
            for (int undone = 1; undone <= Math.min(4, changes); undone++) {
                trees.undo();
                // setDelay answers the delay in force, and undo takes this call back again.
                Check.due("delay after " + undone + " of " + changes + " undone",
                        trees.setDelay(20), 3 + changes - undone);
                trees.undo();
            }
        }
    }

    private static void lookingIsNotSaved() {
        StripeTrees trees = new StripeTrees();
        trees.repair();
        trees.time();
        trees.count(0);
        trees.stripe(0, 0);
        trees.hasRoom(100, 0);
        trees.child(100, 0, 0);
        trees.member(0, 0);
        trees.digest();
        Check.due("repair() alone was saved, though it changed nothing", trees.undo(), 0);
    }

    private static void digestOfNothing() {
        long hash = 12560;
        int[] start = {0, 0, 2, 3};
        for (int value : start) {
            hash = 31 * hash + value;
        }
        for (int zero = 0; zero < 32 * 10 + 4 * 6 + 8; zero++) {
            hash = 31 * hash;
        }
        Check.due("digest() of a new object", new StripeTrees().digest(), hash);
        Check.due("digest() is the same again", new StripeTrees().digest(), hash);
    }

    private static void digestOfOne() {
        StripeTrees trees = new StripeTrees();
        trees.join(0, 5, 2);
        trees.tick(1);
        long hash = 12560;
        int[] start = {2, 1, 2, 3, 1, 5, 2, 0, -1, 0, -1, 4, 1, 0, 0, 4};
        for (int value : start) {
            hash = 31 * hash + value;
        }
        for (int stripe = 0; stripe < 4; stripe++) {
            int[] values = {100, 1, 1, 1};
            for (int value : values) {
                hash = 31 * hash + value;
            }
        }
        for (int zero = 0; zero < 31 * 10; zero++) {
            hash = 31 * hash;
        }
        for (int stripe = 0; stripe < 4; stripe++) {
            int[] values = {1, 0, 1, 1, 1, 0};
            for (int value : values) {
                hash = 31 * hash + value;
            }
        }
        int[] counts = {1, 1, 4, 1, 0, 0, 0, 0};
        for (int value : counts) {
            hash = 31 * hash + value;
        }
        Check.due("digest() of one member after one block", trees.digest(), hash);
    }
}
