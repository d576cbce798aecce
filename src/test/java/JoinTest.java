/** Promise 2: join; and how orphans are attached, step by step. */
public final class JoinTest {

    public static void main(String[] args) {
        pushDown();
        boundZeroStaysOutside();
        spareRoom();
        spareOfLeastDepth();
        spareOfLowestNumber();
        ranking();
        firstWithRoomBelow();
        displacedGoesDown();
        displacedGoesBelowTheOther();
        displacedStaysOrphan();
        longestWay();
        countsBeginAtZero();
        refusals();
        Check.end();
    }

    private static void pushDown() {
        StripeTrees trees = new StripeTrees();
        Check.due("join(0, 4, 0)", trees.join(0, 4, 0), 4);
        Check.due("join(1, 4, 1)", trees.join(1, 4, 1), 4);
        Check.due("count(6) without a push", trees.count(6), 0);
        Check.due("join(2, 4, 2)", trees.join(2, 4, 2), 3);
        Check.due("2 below 0 in stripe 0", trees.parent(2, 0), 0);
        Check.due("2 below 1 in stripe 1", trees.parent(2, 1), 1);
        Check.due("2 took the place of 1 in stripe 2", trees.parent(2, 2), 100);
        Check.due("1 below 2 in stripe 2", trees.parent(1, 2), 2);
        Check.due("2 is an orphan in stripe 3", trees.parent(2, 3), -1);
        Check.due("count(6) after a push", trees.count(6), 1);
        Check.due("join(3, 4, 3)", trees.join(3, 4, 3), 4);
        Check.due("3 took the place of 1 in stripe 3", trees.parent(3, 3), 100);
        Check.due("1 below 3 in stripe 3", trees.parent(1, 3), 3);
        Check.due("2 had its turn before 3", trees.parent(2, 3), -1);
        Check.due("count(6) after two pushes", trees.count(6), 2);
        Check.due("count(7)", trees.count(7), 0);
        Check.due("count(0)", trees.count(0), 4);
    }

    private static void boundZeroStaysOutside() {
        StripeTrees trees = new StripeTrees();
        trees.setSource(1);
        Check.due("join(5, 0, 0)", trees.join(5, 0, 0), 4);
        Check.due("join(6, 0, 1), which ranks before 5 in stripe 1 but can't be inner", trees.join(6, 0, 1), 0);
        Check.due("count(6)", trees.count(6), 0);
        Check.due("join(31, 8, 3)", trees.join(31, 8, 3), 1);
        Check.due("5 prefers stripe 0 and keeps its place", trees.parent(31, 0), -1);
        Check.due("31 ranks before 5 in stripe 1", trees.parent(31, 1), 100);
        Check.due("5 went below it", trees.parent(5, 1), 31);
        Check.due("with a child in stripe 1 it can't be inner in stripe 2", trees.parent(31, 2), -1);
        Check.due("nor in stripe 3, which it prefers", trees.parent(31, 3), -1);
        Check.due("count(6)", trees.count(6), 1);
    }

    private static void spareRoom() {
        StripeTrees trees = new StripeTrees();
        trees.setSource(4);
        for (int member = 0; member < 4; member++) {
            trees.join(member, 1, 0);
        }
        Check.due("join(4, 0, 0): one place in each stripe", trees.join(4, 0, 0), 4);
        for (int stripe = 0; stripe < 4; stripe++) {
            Check.due("parent(4, " + stripe + ")", trees.parent(4, stripe), stripe);
        }
        trees.setSource(6);
        Check.due("join(5, 1, 0)", trees.join(5, 1, 0), 4);
        Check.due("join(6, 1, 0)", trees.join(6, 1, 0), 4);
        Check.due("count(7) without a search", trees.count(7), 0);
        Check.due("join(7, 0, 0): the way down ends at 4, the search finds 5 and 6", trees.join(7, 0, 0), 2);
        Check.due("parent(7, 0): of 5 and 6 the lower", trees.parent(7, 0), 5);
        Check.due("parent(7, 1): 5 has a child in stripe 0", trees.parent(7, 1), 6);
        Check.due("parent(7, 2)", trees.parent(7, 2), -1);
        Check.due("count(7)", trees.count(7), 2);
        Check.due("count(6)", trees.count(6), 0);
    }

    private static void spareOfLeastDepth() {
        StripeTrees trees = Scenes.carried(3);
        trees.join(0, 1, 0);
        trees.join(30, 1, 0);
        trees.join(31, 1, 0);
        trees.join(1, 0, 0);
        Check.due("join(3, 0, 0)", trees.join(3, 0, 0), 4);
        Check.due("0 is full, 30 and 31 have room", trees.parent(3, 0), 30);
        trees.setBound(3, 1);
        Check.due("3 has room at depth 2", trees.hasRoom(3, 0), true);
        trees.join(4, 0, 0);
        Check.due("31 has room at depth 1", trees.parent(4, 0), 31);
        Check.due("count(7)", trees.count(7), 2);
        trees.join(5, 0, 0);
        Check.due("3 is the one with room that is left", trees.parent(5, 0), 3);
        Check.due("count(7)", trees.count(7), 3);
        trees.join(6, 0, 0);
        Check.due("nobody has room in stripe 0", trees.parent(6, 0), -1);
        Check.due("count(7) is for those that were attached", trees.count(7), 3);
    }

    private static void spareOfLowestNumber() {
        StripeTrees trees = Scenes.carried(3);
        trees.join(5, 2, 0);
        trees.join(0, 1, 0);
        trees.join(2, 1, 0);
        trees.join(6, 0, 0);
        trees.join(7, 0, 0);
        Check.due("5, the first by its bound, has two", trees.member(5, 5), 2);
        trees.join(8, 0, 0);
        Check.due("of 0 and 2 at depth 1, 0 is taken", trees.parent(8, 0), 0);
        trees.join(9, 0, 0);
        Check.due("then 2", trees.parent(9, 0), 2);
        Check.due("count(7)", trees.count(7), 2);
    }

    private static void ranking() {
        StripeTrees trees = new StripeTrees();
        trees.setSource(1);
        trees.join(9, 3, 0);
        trees.join(8, 4, 0);
        Check.due("8 has the greater bound", trees.parent(8, 0), 100);
        Check.due("9 went below 8", trees.parent(9, 0), 8);
        trees.join(7, 4, 0);
        Check.due("7 has the lower number", trees.parent(7, 0), 100);
        Check.due("8 went below 7, with its subtree", trees.parent(8, 0), 7);
        Check.due("9 is still below 8", trees.parent(9, 0), 8);
        Check.due("depth(9, 0)", trees.depth(9, 0), 3);
        trees.join(6, 8, 1);
        Check.due("6 does not prefer stripe 0", trees.parent(6, 0), 7);
        Check.due("6 prefers stripe 1", trees.parent(6, 1), 100);
    }

    private static void firstWithRoomBelow() {
        StripeTrees trees = new StripeTrees();
        trees.join(0, 1, 1);
        trees.join(1, 2, 0);
        trees.join(2, 0, 3);
        Check.due("the child of the source that ranks first in stripe 0 is 1", trees.parent(2, 0), 1);
        Check.due("the one that ranks first in stripe 1 is 0", trees.parent(2, 1), 0);
        Check.due("none of both can be inner in stripe 2", trees.parent(2, 2), -1);
        StripeTrees wide = new StripeTrees();
        wide.join(0, 1, 1);
        wide.join(1, 2, 2);
        wide.join(2, 0, 3);
        Check.due("none prefers stripe 0, and 1 has the greater bound", wide.parent(2, 0), 1);
    }

    private static void displacedGoesDown() {
        StripeTrees trees = new StripeTrees();
        trees.setSource(1);
        trees.join(4, 1, 0);
        trees.join(5, 1, 0);
        // Stripe 0: source {4 {5}}. Member 3 (bound 1) pushes 4 down; 5 moves with it.
        Check.due("join(3, 1, 0)", trees.join(3, 1, 0), 1);
        Check.due("depth(5, 0)", trees.depth(5, 0), 3);
        // Member 20 is wider: it takes the place of 3, which goes below it.
        trees.join(20, 2, 0);
        Check.due("parent(3, 0)", trees.parent(3, 0), 20);
        Check.due("depth(5, 0) below 20, 3, 4", trees.depth(5, 0), 4);
    }

    private static void displacedGoesBelowTheOther() {
        StripeTrees trees = new StripeTrees();
        trees.join(0, 4, 0);
        trees.join(1, 1, 1);
        trees.join(2, 3, 0);
        Check.due("2 took the place of 1 in stripe 0", trees.parent(2, 0), 100);
        Check.due("1 goes below 2, though 0 ranks before 2", trees.parent(1, 0), 2);
    }

    private static void displacedStaysOrphan() {
        StripeTrees trees = Scenes.pushedOut();
        Check.due("1 took the place of 0", trees.parent(1, 0), 100);
        Check.due("with its subtree", trees.depth(2, 0), 2);
        Check.due("0 stays an orphan", trees.parent(0, 0), -1);
        Check.due("stripe(0, 1)", trees.stripe(0, 1), 1);
        Check.due("count(6)", trees.count(6), 1);
        Check.due("count(7)", trees.count(7), 0);
    }

    private static void longestWay() {
        StripeTrees trees = Scenes.chain();
        Check.due("depth(31, 0)", trees.depth(31, 0), 32);
        Check.due("subtree(0, 0)", trees.subtree(0, 0), 32);
        Check.due("pieces(31)", trees.pieces(31), 1);
        Check.due("harm(0)", trees.harm(0), 31);
        Check.due("stripe(0, 2)", trees.stripe(0, 2), 32);
        Check.due("leave(0): all others move up", trees.leave(0), 1);
        Check.due("depth(31, 0)", trees.depth(31, 0), 31);
        Check.due("join(0, 1, 0): the subtree moves down again", trees.join(0, 1, 0) > 0, true);
        Check.due("depth(31, 0)", trees.depth(31, 0), 32);
        Check.due("rejoin(31, 0)", trees.rejoin(31, 0), 30);
    }

    private static void countsBeginAtZero() {
        StripeTrees trees = Scenes.narrow();
        trees.tick(3);
        Check.due("pieces got by 0", trees.member(0, 7), 12);
        trees.leave(0);
        trees.join(0, 1, 2);
        for (int what = 7; what < 10; what++) {
            Check.due("member(0, " + what + ") after it came again", trees.member(0, what), 0);
        }
        Check.due("its new bound", trees.member(0, 1), 1);
        Check.due("its new preferred stripe", trees.member(0, 2), 2);
        Check.due("it has not failed", trees.member(0, 3), 0);
    }

    private static void refusals() {
        StripeTrees trees = Scenes.four();
        Check.outside(trees, "join(-1, 0, 0)", () -> trees.join(-1, 0, 0));
        Check.outside(trees, "join(32, 9, 4)", () -> trees.join(32, 9, 4));
        Check.outside(trees, "join(SOURCE, 1, 0)", () -> trees.join(100, 1, 0));
        Check.outside(trees, "join(MIN, 0, 0)", () -> trees.join(Integer.MIN_VALUE, 0, 0));
        Check.illegal(trees, "join(0, 9, 0)", () -> trees.join(0, 9, 0));
        Check.illegal(trees, "join(5, -1, 0)", () -> trees.join(5, -1, 0));
        Check.illegal(trees, "join(5, 0, -1)", () -> trees.join(5, 0, -1));
        Check.illegal(trees, "join(0, 0, 4)", () -> trees.join(0, 0, 4));
        Check.wrongState(trees, "join(0, 4, 0)", () -> trees.join(0, 4, 0));
        Check.due("join(31, 8, 3), the greatest of each", trees.join(31, 8, 3), 4);
    }
}
