/** Promises 3 and 4: leave and fail. */
public final class LeaveFailTest {

    public static void main(String[] args) {
        leaving();
        leavingUnconnected();
        failing();
        failedMayLeaveAndComeAgain();
        refusals();
        Check.end();
    }

    private static void leaving() {
        StripeTrees trees = Scenes.four();
        Check.due("leave(0), which has 2 and 3 in stripe 0", trees.leave(0), 2);
        Check.due("member(0, 0)", trees.member(0, 0), 0);
        Check.due("count(0)", trees.count(0), 3);
        Check.due("2 comes to the source in stripe 0", trees.parent(2, 0), 100);
        // The source has 1 and 2 then, and 3 does not rank before 2: the first that can be inner
        // is neither 1 (children in stripe 1) nor 2 (children in stripe 2).
        Check.due("3 finds nobody in stripe 0", trees.parent(3, 0), -1);
        Check.due("2 stays below 1 in stripe 1", trees.parent(2, 1), 1);
        Check.due("1 stays below 3 in stripe 3", trees.parent(1, 3), 3);
        Check.due("leave(3)", trees.leave(3), 2);
        Check.due("leave(2)", trees.leave(2), 1);
        Check.due("leave(1)", trees.leave(1), 0);
        Check.due("count(0) when all have left", trees.count(0), 0);
        Check.due("nothing is noticed by leaving", trees.count(5), 0);
    }

    private static void leavingUnconnected() {
        StripeTrees trees = Scenes.narrow();
        Check.due("leave(1), an orphan in three stripes", trees.leave(1), 0);
        Check.due("stripe(1, 1)", trees.stripe(1, 1), 1);
        Check.due("member(0, 5)", trees.member(0, 5), 1);
        Check.due("leave(0)", trees.leave(0), 1);
        Check.due("2 is alone at the source", trees.depth(2, 3), 1);
    }

    private static void failing() {
        StripeTrees trees = Scenes.four();
        Check.due("fail(2)", trees.fail(2), 3);
        trees.tick(2);
        Check.due("fail(0) at time 2", trees.fail(0), 5);
        trees.setDelay(20);
        Check.due("fail(3) with a delay of 20", trees.fail(3), 22);
        Check.due("member(2, 3)", trees.member(2, 3), 1);
        Check.due("member(2, 4)", trees.member(2, 4), 3);
        Check.due("the delay as it was at the failure", trees.member(0, 4), 5);
        Check.due("2 stays in its trees", trees.parent(1, 2), 2);
        trees.tick(1);
        Check.due("2 has left at time 3", trees.member(2, 0), 0);
        Check.due("count(5)", trees.count(5), 1);
        trees.tick(1);
        Check.due("0 is there at time 4", trees.member(0, 0), 1);
        trees.tick(1);
        Check.due("0 has left at time 5", trees.member(0, 0), 0);
        trees.tick(16);
        Check.due("3 is there at time 21", trees.member(3, 0), 1);
        trees.tick(1);
        Check.due("3 has left at time 22", trees.member(3, 0), 0);
        Check.due("count(5)", trees.count(5), 3);
    }

    private static void failedMayLeaveAndComeAgain() {
        StripeTrees trees = Scenes.four();
        trees.fail(1);
        Check.due("leave(1)", trees.leave(1), 2);
        trees.join(1, 4, 1);
        Check.due("member(1, 3)", trees.member(1, 3), 0);
        Check.due("member(1, 4)", trees.member(1, 4), -1);
        trees.tick(5);
        Check.due("1 is not noticed any more", trees.member(1, 0), 1);
        Check.due("count(5)", trees.count(5), 0);
        Check.due("fail(1) again", trees.fail(1), 8);
    }

    private static void refusals() {
        StripeTrees trees = Scenes.four();
        trees.fail(3);
        Check.outside(trees, "leave(-1)", () -> trees.leave(-1));
        Check.outside(trees, "leave(32)", () -> trees.leave(32));
        Check.outside(trees, "leave(SOURCE)", () -> trees.leave(100));
        Check.wrongState(trees, "leave(4)", () -> trees.leave(4));
        Check.outside(trees, "fail(-1)", () -> trees.fail(-1));
        Check.outside(trees, "fail(32)", () -> trees.fail(32));
        Check.wrongState(trees, "fail(31)", () -> trees.fail(31));
        Check.wrongState(trees, "fail(3), which has failed", () -> trees.fail(3));
    }
}
