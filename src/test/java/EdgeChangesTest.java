/**
 * The edges that the document names under CHANGES, and in promises 2 to 9; the words over each function
 * are the document's.
 */
public final class EdgeChangesTest {

    private static final int NONE = -1;
    private static final int SOURCE = 100;

    public static void main(String[] args) {
        joinAnswersFromNoneToAll();
        joinAnswersWhatIsConnectedInTheEnd();
        joinAttachesAll();
        countsBeginWithZero();
        leaveAnswersFromNoneToEight();
        theLastLeaves();
        leaveAttachesAll();
        boundBelowTheNumber();
        thoseThatRankLast();
        boundNotLess();
        sourceBelowTheNumber();
        lastOfTheSource();
        attachedOnceAfterAllCuts();
        sourceNotLess();
        othersAttachNobody();
        failAnswersTheTime();
        noticedAfterTheDelay();
        delayAsItWasAtTheFailure();
        beforeTheBlockOfThisTick();
        severalInAscendingOrder();
        leftBeforeIsNotNoticed();
        repairAnswersThePairs();
        rejoinAnswersTheParent();
        rejoinItAlone();
        Check.end();
    }

    /** Stripe 3: source {0, 3 {1}}; 2 is an orphan there, for which 3 has room. */
    private static StripeTrees waiting() {
        StripeTrees trees = new StripeTrees();
        for (int member = 0; member < 4; member++) {
            trees.join(member, 4, member);
        }
        return trees;
    }

    private static void waitsOn(StripeTrees trees, String what) {
        Check.due("2 waits on after " + what, trees.parent(2, 3), NONE);
    }

    private static void attached(StripeTrees trees, String what, int parent) {
        Check.due("2 is attached by " + what, trees.parent(2, 3), parent);
    }

    /** F is 1; 31, with bound 8, has 0, 1, .. (bound 0) below it in stripe 0. */
    private static StripeTrees below31(int children) {
        StripeTrees trees = new StripeTrees();
        trees.setSource(1);
        trees.join(31, 8, 0);
        for (int member = 0; member < children; member++) {
            trees.join(member, 0, 0);
        }
        return trees;
    }

    /** "Returns in how many stripes it is connected then" */
    private static void joinAnswersFromNoneToAll() {
        StripeTrees trees = below31(0);
        Check.due("one", trees.join(0, 0, 0), 1);
        trees.setBound(31, 1);
        Check.due("none", trees.join(1, 0, 0), 0);
        StripeTrees two = new StripeTrees();
        Check.due("four", two.join(0, 1, 0), 4);
        two.join(1, 1, 1);
        Check.due("two", two.join(2, 0, 3), 2);
        StripeTrees three = new StripeTrees();
        three.join(0, 4, 0);
        three.join(1, 4, 1);
        Check.due("three", three.join(2, 4, 2), 3);
    }

    /**
     * "connected then": in stripe 0, 1 comes below 6, which 2 (with 5) pushes out afterwards, so that 1 has
     * a parent there, but is not connected.
     */
    private static void joinAnswersWhatIsConnectedInTheEnd() {
        StripeTrees trees = new StripeTrees();
        trees.setSource(3);
        trees.join(0, 3, 0);
        trees.join(5, 1, 0);
        trees.join(4, 3, 0);
        trees.join(2, 1, 0);
        trees.setSource(2);
        trees.join(8, 2, 0);
        trees.join(6, 1, 0);
        trees.join(3, 3, 0);
        Check.due("before: 6 below 3", trees.parent(6, 0), 3);
        Check.due("before: 2 waits", trees.parent(2, 0), NONE);
        Check.due("join(1, 3, 2): connected in stripe 1 alone", trees.join(1, 3, 2), 1);
        Check.due("1 at the source in stripe 1", trees.parent(1, 1), SOURCE);
        Check.due("1 below 6 in stripe 0", trees.parent(1, 0), 6);
        Check.due("6 below nobody", trees.parent(6, 0), NONE);
        Check.due("2 in its place", trees.parent(2, 0), 3);
        Check.due("so 1 is not connected", trees.depth(1, 0), NONE);
    }

    /** "When a member joins, it is an orphan in all stripes, and orphans are attached" */
    private static void joinAttachesAll() {
        StripeTrees trees = waiting();
        waitsOn(trees, "its own join");
        trees.join(4, 0, 0);
        attached(trees, "the join of another one", 3);
    }

    /** "Its counts of pieces and blocks begin with 0." */
    private static void countsBeginWithZero() {
        StripeTrees trees = below31(1);
        trees.tick(200);
        int[] of31 = {800, 200, 0};
        int[] of0 = {200, 0, 200};
        for (int what = 7; what < 10; what++) {
            Check.due("member(31, " + what + ")", trees.member(31, what), of31[what - 7]);
            Check.due("member(0, " + what + ")", trees.member(0, what), of0[what - 7]);
        }
        trees.leave(31);
        trees.leave(0);
        trees.join(31, 8, 0);
        trees.join(0, 0, 0);
        for (int what = 7; what < 10; what++) {
            Check.due("member(31, " + what + ") at first", trees.member(31, what), 0);
            Check.due("member(0, " + what + ") at first", trees.member(0, what), 0);
        }
        Check.due("the counts of all go on", trees.count(2), 1000);
    }

    /** "Returns how many children it had." */
    private static void leaveAnswersFromNoneToEight() {
        for (int children = 0; children <= 8; children++) {
            StripeTrees trees = below31(children);
            Check.due("leave(31) with " + children, trees.leave(31), children);
            Check.due("0 is at the source", trees.stripe(0, 3), children == 0 ? 0 : 1);
            Check.due("the others are orphans", trees.stripe(0, 1), children == 0 ? 0 : children - 1);
            for (int what = 0; what < 10; what++) {
                Check.due("member(31, " + what + ")", trees.member(31, what), 0);
            }
        }
        Check.due("an orphan has none", below31(3).leave(2), 0);
        Check.due("but one may have some", Scenes.cutOff().leave(1), 1);
    }

    private static void theLastLeaves() {
        StripeTrees trees = new StripeTrees();
        trees.join(17, 8, 2);
        Check.due("one", trees.count(0), 1);
        Check.due("leave(17)", trees.leave(17), 0);
        Check.due("nobody", trees.count(0), 0);
        Check.wrongState(trees, "leave(17)", () -> trees.leave(17));
        for (int stripe = 0; stripe < 4; stripe++) {
            for (int what = 0; what < 6; what++) {
                Check.due("stripe(" + stripe + ", " + what + ")", trees.stripe(stripe, what), 0);
            }
            Check.due("the source is free", trees.child(SOURCE, stripe, 0), NONE);
        }
        Check.due("it may join again", trees.join(17, 0, 0), 4);
    }

    /** "its children become orphans, it is taken out of all trees, and orphans are attached" */
    private static void leaveAttachesAll() {
        StripeTrees trees = waiting();
        trees.leave(0);
        attached(trees, "leave, at the source, where there is room", SOURCE);
        Check.due("no place is left there", trees.hasRoom(SOURCE, 3), false);
        StripeTrees chain = Scenes.chain();
        chain.leave(15);
        Check.due("its child goes down from the source, to the one before", chain.parent(16, 0), 14);
        Check.due("with its subtree", chain.depth(31, 0), 31);
    }

    /** "a bound .. that is less than the number of children": equal, one less, down to none */
    private static void boundBelowTheNumber() {
        for (int bound = 8; bound >= 0; bound--) {
            StripeTrees trees = below31(8);
            Check.due("setBound(31, " + bound + ")", trees.setBound(31, bound), 8);
            Check.due("as many as the bound", trees.member(31, 5), bound);
            Check.due("and no more", trees.child(31, 0, bound), NONE);
            for (int child = 0; child < 8; child++) {
                Check.due("parent of " + child + " with " + bound, trees.parent(child, 0), child < bound ? 31 : NONE);
            }
            Check.due("where they are", trees.member(31, 6), bound == 0 ? NONE : 0);
            Check.due("orphans", trees.stripe(0, 1), 8 - bound);
        }
        StripeTrees fewer = below31(3);
        for (int bound : new int[] {8, 4, 3}) {
            fewer.setBound(31, bound);
            Check.due("three are not more than " + bound, fewer.member(31, 5), 3);
        }
        fewer.setBound(31, 2);
        Check.due("but than 2", fewer.member(31, 5), 2);
    }

    /** "the children that rank last (in their stripe) become orphans, one after the other" */
    private static void thoseThatRankLast() {
        // In stripe 0 they rank 1 (which prefers it), 3 (bound 1), 0, 2.
        int[][] left = {{0, 1, 2, 3}, {0, 1, 3}, {1, 3}, {1}, {}};
        for (int bound = 4; bound >= 0; bound--) {
            StripeTrees trees = new StripeTrees();
            trees.setSource(1);
            trees.join(31, 4, 0);
            trees.join(0, 0, 3);
            trees.join(1, 0, 0);
            trees.join(2, 0, 3);
            trees.join(3, 0, 3);
            trees.setBound(3, 1);
            trees.setBound(31, bound);
            int[] want = left[4 - bound];
            for (int i = 0; i < want.length; i++) {
                Check.due("child " + i + " with bound " + bound, trees.child(31, 0, i), want[i]);
            }
            Check.due("no child more with bound " + bound, trees.child(31, 0, want.length), NONE);
        }
    }

    /** "then orphans are attached, also if the bound is not less" */
    private static void boundNotLess() {
        for (int bound = 2; bound <= 8; bound++) {
            StripeTrees trees = waiting();
            Check.due("0 has two children", trees.member(0, 5), 2);
            trees.setBound(0, bound);
            attached(trees, "setBound(0, " + bound + ")", 3);
            Check.due("0 has two children", trees.member(0, 5), 2);
        }
        StripeTrees less = waiting();
        less.setBound(0, 1);
        attached(less, "a lesser bound", 3);
    }

    /** "When F is set, the same is done with the children of the source" */
    private static void sourceBelowTheNumber() {
        for (int f = 8; f >= 1; f--) {
            StripeTrees trees = new StripeTrees();
            trees.setSource(8);
            for (int member = 0; member < 8; member++) {
                trees.join(member, 0, 0);
            }
            Check.due("setSource(" + f + ")", trees.setSource(f), 8);
            for (int stripe = 0; stripe < 4; stripe++) {
                Check.due("as many as F", trees.stripe(stripe, 3), f);
                Check.due("orphans", trees.stripe(stripe, 1), 8 - f);
                for (int member = 0; member < 8; member++) {
                    Check.due("parent(" + member + ", " + stripe + ") with F = " + f,
                            trees.parent(member, stripe), member < f ? SOURCE : NONE);
                }
            }
            Check.due("F", trees.setSource(8), f);
            Check.due("all come back", trees.stripe(3, 3), 8);
        }
    }

    private static void lastOfTheSource() {
        StripeTrees trees = new StripeTrees();
        trees.setSource(4);
        trees.join(0, 0, 3);
        trees.join(1, 0, 0);
        trees.join(2, 0, 3);
        trees.join(3, 1, 3);
        // Stripe 0 ranks them 1, 3, 0, 2; stripe 1 ranks them 3, 0, 1, 2; stripe 3 ranks them 3, 0, 2, 1.
        trees.setSource(3);
        Check.due("the last in stripe 0 went below 3", trees.parent(2, 0), 3);
        Check.due("the last in stripe 1 found nobody", trees.parent(2, 1), NONE);
        Check.due("the last in stripe 3 found nobody", trees.parent(1, 3), NONE);
        trees.setSource(2);
        Check.due("0 in stripe 0", trees.parent(0, 0), NONE);
        Check.due("1 in stripe 1", trees.parent(1, 1), NONE);
        Check.due("2 in stripe 3", trees.parent(2, 3), NONE);
        trees.setSource(1);
        Check.due("1 is left in stripe 0", trees.child(SOURCE, 0, 0), 1);
        Check.due("3 is left in stripe 1", trees.child(SOURCE, 1, 0), 3);
        Check.due("3 is left in stripe 3", trees.child(SOURCE, 3, 0), 3);
    }

    /** "for the stripes in ascending order; then orphans are attached once" */
    private static void attachedOnceAfterAllCuts() {
        StripeTrees trees = new StripeTrees();
        trees.join(4, 3, 2);
        trees.join(2, 3, 3);
        trees.join(1, 2, 1);
        trees.join(5, 2, 3);
        Check.due("in stripe 3, 5 is at the source", trees.parent(5, 3), SOURCE);
        Check.due("with 4 below it and room for one", trees.hasRoom(5, 3), true);
        Check.due("1 waits there", trees.parent(1, 3), NONE);
        trees.setSource(1);
        // 5 is cut before 1 has its turn, so the room below it is out of reach.
        Check.due("2 is left there", trees.child(SOURCE, 3, 0), 2);
        Check.due("5 is an orphan", trees.parent(5, 3), NONE);
        Check.due("1 waits on", trees.parent(1, 3), NONE);
    }

    /** "then orphans are attached once, also if F is not less" */
    private static void sourceNotLess() {
        StripeTrees same = waiting();
        same.setSource(2);
        attached(same, "setSource(2)", 3);
        StripeTrees more = waiting();
        more.setSource(3);
        attached(more, "setSource(3)", SOURCE);
        Check.due("those below stay there", more.parent(1, 3), 3);
        StripeTrees less = waiting();
        less.setSource(1);
        Check.due("once: 2 has its turn, and 3 has room", less.parent(2, 3), 3);
    }

    private static void othersAttachNobody() {
        StripeTrees trees = waiting();
        trees.fail(0);
        waitsOn(trees, "fail");
        trees.setDelay(20);
        waitsOn(trees, "setDelay");
        trees.tick(2);
        waitsOn(trees, "ticks in which nobody is noticed");
        trees.rejoin(0, 3);
        waitsOn(trees, "rejoin of another one");
        trees.rejoin(2, 2);
        waitsOn(trees, "rejoin in another stripe");
        trees.tick(1);
        attached(trees, "the tick in which 0 is noticed", SOURCE);
        StripeTrees back = waiting();
        back.repair();
        attached(back, "repair", 3);
        back.undo();
        waitsOn(back, "undo of repair");
    }

    /** "Returns the time at which it will be noticed." */
    private static void failAnswersTheTime() {
        for (int delay : new int[] {1, 2, 19, 20}) {
            StripeTrees trees = waiting();
            trees.setDelay(delay);
            Check.due("fail at 0", trees.fail(0), delay);
            trees.tick(1);
            Check.due("fail at 1", trees.fail(1), 1 + delay);
            trees.tick(200);
            Check.due("fail at 201", trees.fail(2), 201 + delay);
            Check.due("member(2, 4)", trees.member(2, 4), 201 + delay);
            Check.due("member(2, 3)", trees.member(2, 3), 1);
            Check.due("one that has not failed", trees.member(3, 4), NONE);
            Check.due("one that was noticed", trees.member(0, 4), 0);
        }
        Check.due("3 at first", waiting().fail(3), 3);
    }

    /** "in the tick whose time is that of the failure plus the delay": one before, then it */
    private static void noticedAfterTheDelay() {
        for (int delay = 1; delay <= 20; delay++) {
            StripeTrees trees = waiting();
            trees.tick(7);
            trees.setDelay(delay);
            trees.fail(0);
            if (delay > 1) {
                trees.tick(delay - 1);
            }
            Check.due("there one tick before", trees.member(0, 0), 1);
            Check.due("failed", trees.member(0, 3), 1);
            Check.due("not noticed", trees.count(5), 0);
            trees.tick(1);
            Check.due("gone after " + delay, trees.member(0, 0), 0);
            Check.due("noticed", trees.count(5), 1);
            trees.tick(20);
            Check.due("once", trees.count(5), 1);
            trees.undo();
            trees.undo();
            Check.due("there again after undo", trees.member(0, 4), 7 + delay);
            trees.tick(delay == 20 ? 20 : delay + 1);
            Check.due("gone in one call", trees.member(0, 0), 0);
        }
    }

    /** "(1 to 20 ticks, 3 at first) .. (as it was at the failure)" */
    private static void delayAsItWasAtTheFailure() {
        StripeTrees trees = waiting();
        trees.fail(0);
        trees.setDelay(1);
        trees.fail(1);
        trees.setDelay(20);
        trees.fail(2);
        int[] times = {3, 1, 20};
        for (int time = 1; time <= 20; time++) {
            trees.tick(1);
            int noticed = 0;
            for (int member = 0; member < 3; member++) {
                int gone = time < times[member] ? 0 : 1;
                Check.due("member(" + member + ", 0) at " + time, trees.member(member, 0), 1 - gone);
                noticed += gone;
            }
            Check.due("count(5) at " + time, trees.count(5), noticed);
        }
    }

    /** "before the block of this tick, it leaves" */
    private static void beforeTheBlockOfThisTick() {
        for (int delay = 1; delay <= 20; delay += 19) {
            StripeTrees trees = below31(1);
            trees.setDelay(delay);
            trees.fail(31);
            Check.due("0 misses all blocks before", delay == 1 ? 0 : trees.tick(19), delay - 1);
            Check.due("but not that of the tick itself", trees.tick(1), 0);
            Check.due("pieces got by 0", trees.member(0, 7), 4);
            Check.due("blocks had by 0", trees.member(0, 8), 1);
            Check.due("blocks had by all", trees.count(3), 1);
        }
    }

    /** "if there are several, in ascending order": after each one orphans are attached */
    private static void severalInAscendingOrder() {
        StripeTrees ascending = new StripeTrees();
        ascending.join(2, 1, 1);
        ascending.join(0, 3, 3);
        ascending.fail(2);
        ascending.join(4, 0, 2);
        ascending.fail(0);
        ascending.join(5, 2, 0);
        Check.due("2 carries 4 in stripe 1", ascending.parent(4, 1), 2);
        ascending.tick(3);
        Check.due("both were noticed", ascending.count(5), 2);
        // 0 leaves, and 5 takes its place; then 2 leaves, and 4 takes its place, which 5 would have taken.
        Check.due("parent(5, 1)", ascending.parent(5, 1), SOURCE);
        Check.due("parent(4, 1)", ascending.parent(4, 1), SOURCE);
        oneAfterTheOther();
    }

    private static void oneAfterTheOther() {
        StripeTrees trees = new StripeTrees();
        trees.join(3, 3, 3);
        trees.join(0, 3, 2);
        trees.fail(0);
        trees.fail(3);
        trees.join(1, 1, 3);
        trees.join(5, 1, 0);
        trees.tick(3);
        Check.due("both were noticed", trees.count(5), 2);
        // While 3 was still there, 1 took the place of 0 in stripe 2, and 5 went below it.
        Check.due("parent(1, 2)", trees.parent(1, 2), SOURCE);
        Check.due("parent(5, 2)", trees.parent(5, 2), 1);
    }

    /** "A member that fails and leaves before that is not noticed any more." */
    private static void leftBeforeIsNotNoticed() {
        StripeTrees trees = waiting();
        trees.fail(0);
        trees.tick(2);
        trees.leave(0);
        trees.tick(1);
        Check.due("left in the last moment", trees.count(5), 0);
        StripeTrees again = waiting();
        again.fail(0);
        again.tick(2);
        again.leave(0);
        again.join(0, 4, 0);
        Check.due("it has not failed", again.member(0, 4), NONE);
        again.tick(1);
        Check.due("it stays", again.member(0, 0), 1);
        Check.due("fail(0) once more", again.fail(0), 6);
        again.tick(2);
        Check.due("at 5 it is there", again.member(0, 0), 1);
        again.tick(1);
        Check.due("at 6 it is not", again.member(0, 0), 0);
        Check.due("noticed once", again.count(5), 1);
        StripeTrees undone = waiting();
        undone.fail(0);
        undone.undo();
        undone.tick(3);
        Check.due("a failure that was undone is not noticed", undone.count(5), 0);
    }

    /** "Returns how many pairs of a member and a stripe in which it is an orphan are left." */
    private static void repairAnswersThePairs() {
        StripeTrees trees = new StripeTrees();
        Check.due("of nobody", trees.repair(), 0);
        trees.join(0, 0, 0);
        trees.join(1, 0, 0);
        Check.due("no orphan", trees.repair(), 0);
        trees.join(2, 0, 0);
        Check.due("one member in all stripes", trees.repair(), 4);
        Check.due("a pair for which there is room", waiting().repair(), 0);
        StripeTrees one = new StripeTrees();
        one.join(0, 4, 0);
        one.join(1, 4, 1);
        one.join(2, 4, 2);
        Check.due("2 in stripe 3, where nobody can be inner", one.repair(), 1);
        one.setBound(0, 0);
        Check.due("2 loses its place below 0 in stripe 0, too", one.repair(), 2);
    }

    /** "Returns its parent then: a member, SOURCE, or NONE." */
    private static void rejoinAnswersTheParent() {
        StripeTrees trees = below31(1);
        Check.due("SOURCE", trees.rejoin(31, 0), SOURCE);
        Check.due("its subtree stays", trees.parent(0, 0), 31);
        Check.due("a member", trees.rejoin(0, 0), 31);
        Check.due("NONE, of an orphan", trees.rejoin(0, 1), NONE);
        Check.due("NONE in the last stripe", trees.rejoin(0, 3), NONE);
        Check.due("the only one at the source", trees.rejoin(31, 3), SOURCE);
        // An orphan finds what was out of its reach before.
        StripeTrees waiting = waiting();
        Check.due("an orphan for which there is room", waiting.rejoin(2, 3), 3);
        // Cut from its place, one may lose it: 0 goes up to the source, which has room by now.
        StripeTrees up = below31(1);
        up.setSource(2);
        Check.due("0 stays below when F is raised", up.parent(0, 0), 31);
        Check.due("and comes up by rejoin", up.rejoin(0, 0), SOURCE);
        Check.due("31 has no children left", up.member(31, 6), NONE);
    }

    /** "and attaches it again (it alone)" */
    private static void rejoinItAlone() {
        StripeTrees trees = new StripeTrees();
        trees.setSource(1);
        trees.join(5, 0, 0);
        trees.join(4, 0, 0);
        Check.due("5 keeps its place", trees.rejoin(5, 2), SOURCE);
        Check.due("which 4, the first, does not get", trees.parent(4, 2), NONE);
        Check.due("repair() does not give it either", trees.repair(), 4);
        StripeTrees waiting = waiting();
        Check.due("rejoin(1, 3)", waiting.rejoin(1, 3), 3);
        waitsOn(waiting, "rejoin(1, 3)");
        pushedOutByRejoin();
    }

    /** One that is pushed out goes on as the document says, and may stay an orphan. */
    private static void pushedOutByRejoin() {
        for (int preferred : new int[] {0, 3}) {
            StripeTrees trees = new StripeTrees();
            trees.setSource(1);
            trees.join(0, 1, 1);
            trees.join(1, 0, 0);
            trees.join(2, 0, preferred);
            trees.setBound(1, 1);
            Check.due("stripe 0: source {0 {1 {2}}}", trees.depth(2, 0), 3);
            Check.due("1 prefers stripe 0, and can be inner by now", trees.rejoin(1, 0), SOURCE);
            Check.due("0 takes the place of 2, if 2 does not prefer it", trees.parent(0, 0), preferred == 0 ? NONE : 1);
            Check.due("parent(2, 0)", trees.parent(2, 0), preferred == 0 ? 1 : 0);
            Check.due("count(6)", trees.count(6), preferred == 0 ? 1 : 2);
        }
    }
}
