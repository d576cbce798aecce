/** The edges that the document names under ATTACHING; the words over each function are the document's. */
public final class EdgeAttachTest {

    private static final int NONE = -1;
    private static final int SOURCE = 100;

    public static void main(String[] args) {
        roomAtTheSource();
        roomBelow();
        beforeTheLast();
        theLastOfSeveral();
        pushNeedsABound();
        displacedFindsRoom();
        displacedPushesOn();
        displacedGoesDeeper();
        displacedFindsSpareRoom();
        displacedFindsNone();
        firstOfThoseThatCanBeInner();
        aFullFirstIsNotPassedBy();
        noneCanBeInner();
        leastDepthThenLowestNumber();
        firstAndLastMember();
        neverItsOwnSubtree();
        noRoomAnywhere();
        stripesInAscendingOrder();
        membersInAscendingOrder();
        notASecondTime();
        unlessTheirTurnComesLater();
        downTheLongestWay();
        Check.end();
    }

    /** F is 1, and 5, with this bound and preference, is at the source in all stripes. */
    private static StripeTrees only5(int bound, int preferred) {
        StripeTrees trees = new StripeTrees();
        trees.setSource(1);
        trees.join(5, bound, preferred);
        return trees;
    }

    /** "(1) If a has room, x becomes a child of a": F - 1 children, F, and one more than F allows */
    private static void roomAtTheSource() {
        for (int f = 1; f <= 8; f++) {
            StripeTrees trees = new StripeTrees();
            trees.setSource(f);
            // With rising bounds each one ranks before those at the source, but room comes first.
            for (int member = 0; member < f; member++) {
                Check.due("room for " + member + " of " + f, trees.join(member, member, 0), 4);
            }
            Check.due("nobody was pushed", trees.count(6), 0);
            trees.join(31, 8, 0);
            Check.due("without room there is a push in stripe 0", trees.parent(31, 0), SOURCE);
            Check.due("of 0, which ranks last", trees.parent(0, 0), 31);
            Check.due("count(6)", trees.count(6), 1);
        }
    }

    /** "(1) follows with d as a" */
    private static void roomBelow() {
        for (int bound = 1; bound <= 8; bound++) {
            StripeTrees trees = only5(bound, 0);
            for (int i = 0; i < bound; i++) {
                trees.join(10 + i, 0, 0);
                Check.due("child " + i + " of " + bound, trees.parent(10 + i, 0), 5);
            }
            trees.join(20, 0, 0);
            Check.due("no room below", trees.parent(20, 0), NONE);
            Check.due("the search was not needed", trees.count(7), 0);
        }
    }

    private static void against5(int bound, int preferred, int x, int xBound, int xPreferred, boolean pushes) {
        StripeTrees trees = only5(bound, preferred);
        trees.join(x, xBound, xPreferred);
        String what = x + " (bound " + xBound + ", prefers " + xPreferred + ") against 5 (bound " + bound
                + ", prefers " + preferred + ")";
        Check.due("upper: " + what, trees.parent(x, 0), pushes ? SOURCE : 5);
        Check.due("lower: " + what, trees.parent(5, 0), pushes ? x : SOURCE);
    }

    /** "(2) .. If x ranks before w": just before, and just not */
    private static void beforeTheLast() {
        against5(2, 0, 4, 2, 0, true);
        against5(2, 0, 6, 2, 0, false);
        against5(2, 0, 6, 3, 0, true);
        against5(2, 0, 4, 1, 0, false);
        against5(8, 1, 6, 1, 0, true);
        against5(1, 0, 4, 8, 1, false);
        against5(1, 1, 31, 1, 2, false);
        against5(1, 1, 0, 1, 2, true);
        against5(7, 1, 31, 8, 2, true);
    }

    /** "let w be the child of a that ranks last" */
    private static void theLastOfSeveral() {
        int[][] joins = {{10, 2, SOURCE}, {7, 1, SOURCE}, {10, 1, 4}, {7, 0, 4}};
        for (int[] join : joins) {
            StripeTrees trees = Scenes.carried(3);
            trees.leave(20);
            trees.leave(21);
            trees.leave(22);
            trees.setSource(3);
            trees.join(4, 2, 0);
            trees.join(8, 1, 0);
            trees.join(9, 1, 0);
            trees.join(join[0], join[1], 0);
            Check.due("parent of " + join[0] + " with bound " + join[1], trees.parent(join[0], 0), join[2]);
            Check.due("9 ranks last", trees.parent(9, 0), join[2] == SOURCE ? join[0] : SOURCE);
            Check.due("4 stays", trees.parent(4, 0), SOURCE);
            Check.due("8 stays", trees.parent(8, 0), SOURCE);
        }
    }

    /** "(2) .. and x can be inner" */
    private static void pushNeedsABound() {
        for (int bound = 0; bound <= 1; bound++) {
            StripeTrees trees = only5(0, 3);
            trees.join(6, bound, 0);
            Check.due("6 ranks before 5", trees.ranksBefore(6, 5, 0), true);
            Check.due("parent(6, 0) with bound " + bound, trees.parent(6, 0), bound == 0 ? NONE : SOURCE);
            Check.due("in stripe 1, too, but for its child", trees.parent(6, 1), NONE);
            Check.due("count(6)", trees.count(6), bound);
        }
    }

    /** "x becomes a child of a in place of w, which becomes an orphan; then (1) follows with w as x" */
    private static void displacedFindsRoom() {
        StripeTrees trees = only5(1, 0);
        trees.join(6, 0, 0);
        trees.join(4, 1, 0);
        Check.due("4 in place of 5", trees.parent(4, 0), SOURCE);
        Check.due("the source has no more than F", trees.stripe(0, 3), 1);
        Check.due("5 below 4", trees.parent(5, 0), 4);
        Check.due("6 still below 5", trees.parent(6, 0), 5);
        Check.due("depth(6, 0)", trees.depth(6, 0), 3);
        Check.due("count(6)", trees.count(6), 1);
        Check.due("count(7)", trees.count(7), 0);
    }

    /**
     * Stripe 0: source {0 {1, 5 {2, 3}}}, all of 0 and 1 and 5 with bound 2. Bound 1 for 0 cuts 5, the last;
     * 5 takes the place of 0, 0 (with 1) that of 3 below the full 5, and 3 goes past 0 to 1.
     */
    private static void displacedPushesOn() {
        StripeTrees trees = new StripeTrees();
        trees.setSource(1);
        trees.join(0, 2, 1);
        trees.join(1, 0, 1);
        trees.join(5, 0, 1);
        trees.setBound(5, 2);
        trees.join(2, 0, 1);
        trees.join(3, 0, 1);
        trees.setBound(1, 2);
        Check.due("before: 5 is full", trees.subtree(5, 0), 3);
        Check.due("before: 0 has both", trees.subtree(0, 0), 5);
        Check.due("count(6) before", trees.count(6), 0);
        trees.setBound(0, 1);
        Check.due("parent(5, 0)", trees.parent(5, 0), SOURCE);
        Check.due("parent(0, 0)", trees.parent(0, 0), 5);
        Check.due("parent(2, 0)", trees.parent(2, 0), 5);
        Check.due("parent(1, 0)", trees.parent(1, 0), 0);
        Check.due("parent(3, 0)", trees.parent(3, 0), 1);
        Check.due("count(6): two places were taken", trees.count(6), 2);
        Check.due("count(7)", trees.count(7), 0);
    }

    /**
     * Stripe 0: source {0 {1, 5 {2, 3}}}. With bound 0, 0 loses 1 and 5: 1 finds nobody, 5 takes the
     * place of 0, which ranks before 3 but can't be inner, and goes below 2.
     */
    private static void displacedGoesDeeper() {
        StripeTrees trees = new StripeTrees();
        trees.setSource(1);
        trees.join(0, 2, 1);
        trees.join(1, 0, 1);
        trees.join(5, 0, 1);
        trees.setBound(5, 2);
        trees.join(2, 0, 1);
        trees.join(3, 0, 1);
        trees.setBound(2, 1);
        trees.setBound(0, 0);
        Check.due("parent(5, 0)", trees.parent(5, 0), SOURCE);
        Check.due("parent(0, 0)", trees.parent(0, 0), 2);
        Check.due("depth(0, 0)", trees.depth(0, 0), 3);
        Check.due("1 had its turn before", trees.parent(1, 0), NONE);
        Check.due("count(6)", trees.count(6), 1);
        Check.due("count(7)", trees.count(7), 0);
    }

    /**
     * In the stripes 1, 2 and 3 all are carried. In stripe 0 the source has w (bound 0) and 10 {1, 2 {3},
     * 5} besides; 1 has the bound given, 2 is full, and 5 has room for three. Then 10 leaves: 1 comes to the
     * source, 2 takes the place of w, which finds no room below 2, and 5 takes the place of 22.
     */
    private static StripeTrees left(int w, int boundOf1) {
        StripeTrees trees = Scenes.carried(2);
        trees.join(10, 3, 0);
        trees.join(w, 0, 1);
        trees.join(1, 0, 0);
        trees.join(2, 0, 0);
        trees.join(5, 0, 0);
        trees.join(3, 0, 0);
        trees.setBound(2, 1);
        trees.setBound(5, 3);
        trees.setBound(1, boundOf1);
        Check.due("2 carries 3", trees.parent(3, 0), 2);
        Check.due("10 carries three", trees.member(10, 5), 3);
        Check.due("no search so far", trees.count(7), 0);
        trees.leave(10);
        Check.due("parent(1, 0)", trees.parent(1, 0), SOURCE);
        Check.due("2 in place of w", trees.parent(2, 0), SOURCE);
        Check.due("5 in place of 22", trees.parent(5, 0), SOURCE);
        Check.due("22 below 5", trees.parent(22, 0), 5);
        Check.due("two pushes", trees.count(6), 2);
        return trees;
    }

    /** "(4) Otherwise, of all members that have room" for one that was pushed out */
    private static void displacedFindsSpareRoom() {
        StripeTrees trees = left(0, 1);
        Check.due("w below 1, which has room", trees.parent(0, 0), 1);
        Check.due("count(7)", trees.count(7), 1);
    }

    /** "If there is none, x stays an orphan" for one that was pushed out */
    private static void displacedFindsNone() {
        StripeTrees trees = left(0, 0);
        Check.due("w below nobody", trees.parent(0, 0), NONE);
        Check.due("count(7)", trees.count(7), 0);
    }

    /** Stripe 0: the source has 4, 5 and 6, with the bounds 0, 1 and 2, that prefer it. */
    private static StripeTrees threeWide() {
        StripeTrees trees = Scenes.carried(3);
        trees.join(4, 0, 0);
        trees.join(5, 1, 0);
        trees.join(6, 2, 0);
        return trees;
    }

    /** "(3) .. the child of a that ranks first among those that can be inner" */
    private static void firstOfThoseThatCanBeInner() {
        StripeTrees trees = threeWide();
        trees.join(7, 0, 0);
        Check.due("6 has the greatest bound", trees.parent(7, 0), 6);
        StripeTrees none = Scenes.carried(2);
        none.join(4, 0, 0);
        none.join(5, 1, 0);
        none.join(7, 0, 0);
        Check.due("5, as 4 can't be inner", none.parent(7, 0), 5);
    }

    private static void aFullFirstIsNotPassedBy() {
        StripeTrees trees = threeWide();
        trees.join(7, 0, 0);
        trees.join(8, 0, 0);
        Check.due("6 takes as many as its bound", trees.parent(8, 0), 6);
        Check.due("no search", trees.count(7), 0);
        trees.join(9, 0, 0);
        Check.due("then 5 is found", trees.parent(9, 0), 5);
        Check.due("by the search, not by (3)", trees.count(7), 1);
        Check.due("then nobody", trees.join(10, 0, 0), 3);
        Check.due("count(7)", trees.count(7), 1);
    }

    /** "If there is one, (1) follows": there is none */
    private static void noneCanBeInner() {
        StripeTrees trees = only5(0, 0);
        Check.due("below a bound of 0", trees.join(6, 0, 0), 0);
        StripeTrees one = only5(1, 0);
        Check.due("below a bound of 1", one.join(6, 0, 0), 1);
        Check.due("below its child", one.join(7, 0, 0), 0);
    }

    /** "the one with the least depth is taken, of several the one with the lowest number" */
    private static void leastDepthThenLowestNumber() {
        StripeTrees trees = Scenes.carried(4);
        trees.join(10, 2, 0);
        trees.join(11, 1, 0);
        trees.join(30, 1, 0);
        trees.join(31, 1, 0);
        trees.join(0, 0, 0);
        trees.join(1, 0, 0);
        trees.setBound(0, 1);
        // 10 is full, with 0 (room) and 1 (bound 0) below it; 11, 30, 31 have room beside it.
        int[] parents = {0, 11, 30, 31};
        for (int i = 0; i < parents.length; i++) {
            trees.join(12 + i, 0, 0);
            Check.due("parent(" + (12 + i) + ", 0)", trees.parent(12 + i, 0), parents[i]);
            Check.due("count(7): the first was no search", trees.count(7), i);
        }
        trees.setBound(13, 1);
        trees.setBound(31, 2);
        trees.join(16, 0, 0);
        Check.due("31 at depth 1, not 13 at depth 2", trees.parent(16, 0), 31);
        trees.join(17, 0, 0);
        Check.due("then 13", trees.parent(17, 0), 13);
        Check.due("count(7)", trees.count(7), 5);
    }

    /** 0 and 31 are found like the others, by (3) and by (4). */
    private static void firstAndLastMember() {
        for (int last : new int[] {0, 31}) {
            StripeTrees trees = new StripeTrees();
            trees.setSource(1);
            trees.join(last, 1, 0);
            trees.join(5, 0, 0);
            Check.due(last + " ranks first of the children of the source", trees.parent(5, 0), last);
            Check.due("and is not searched for", trees.count(7), 0);
            StripeTrees spare = Scenes.carried(2);
            spare.join(last, 1, 0);
            spare.join(10, 2, 0);
            spare.join(11, 0, 0);
            spare.join(12, 0, 0);
            Check.due("10 ranks before " + last, spare.member(10, 5), 2);
            spare.fail(last);
            spare.join(13, 0, 0);
            Check.due(last + " has room, though it has failed", spare.parent(13, 0), last);
            Check.due("and is searched for", spare.count(7), 1);
        }
    }

    /** "and are not in the subtree of x" */
    private static void neverItsOwnSubtree() {
        StripeTrees trees = Scenes.cutOff();
        trees.setBound(1, 8);
        Check.due("1 has two places left", trees.member(1, 5), 1);
        Check.due("rejoin(1, 0)", trees.rejoin(1, 0), NONE);
        Check.due("neither below itself nor below 2", trees.parent(1, 0), NONE);
        Check.due("2 stays below it", trees.parent(2, 0), 1);
        Check.due("repair()", trees.repair() > 0, true);
        Check.due("parent(1, 0)", trees.parent(1, 0), NONE);
        Check.due("count(7)", trees.count(7), 0);
        // Cut from the source, the head of a chain has all the room below it, and comes back.
        StripeTrees chain = Scenes.chain();
        chain.setBound(15, 2);
        Check.due("rejoin(0, 0)", chain.rejoin(0, 0), SOURCE);
        Check.due("the whole chain", chain.subtree(0, 0), 32);
    }

    /** "If there is none, x stays an orphan" */
    private static void noRoomAnywhere() {
        for (int f = 1; f <= 8; f++) {
            StripeTrees trees = new StripeTrees();
            trees.setSource(f);
            for (int member = 0; member < 32; member++) {
                Check.due("join(" + member + ") with F = " + f, trees.join(member, 0, 0), member < f ? 4 : 0);
            }
            Check.due("repair()", trees.repair(), 4 * (32 - f));
            Check.due("count(6)", trees.count(6), 0);
            Check.due("count(7)", trees.count(7), 0);
        }
    }

    /** "for the stripes in ascending order" */
    private static void stripesInAscendingOrder() {
        StripeTrees trees = only5(1, 3);
        trees.join(6, 0, 3);
        Check.due("the one place of 5 is given in stripe 0", trees.parent(6, 0), 5);
        for (int stripe = 1; stripe < 4; stripe++) {
            Check.due("parent(6, " + stripe + ")", trees.parent(6, stripe), NONE);
        }
    }

    /** "for the members in ascending order" */
    private static void membersInAscendingOrder() {
        StripeTrees trees = only5(2, 0);
        trees.join(31, 0, 0);
        trees.join(0, 0, 0);
        trees.leave(5);
        for (int stripe = 0; stripe < 4; stripe++) {
            Check.due("0 comes first", trees.parent(0, stripe), SOURCE);
            Check.due("then 31", trees.parent(31, stripe), NONE);
        }
    }

    /** "Members that become orphans by this, or stay so, are not attached a second time" */
    private static void notASecondTime() {
        StripeTrees became = left(0, 0);
        Check.due("there is room for 0 then", became.hasRoom(5, 0), true);
        Check.due("but it was pushed out after its turn", became.parent(0, 0), NONE);
        Check.due("repair()", became.repair(), 0);
        Check.due("parent(0, 0)", became.parent(0, 0), 5);
        // 2 finds nobody in stripe 3, till 3 comes, which has room.
        StripeTrees stayed = new StripeTrees();
        for (int member = 0; member < 4; member++) {
            stayed.join(member, 4, member);
        }
        Check.due("there is room for 2 then", stayed.hasRoom(3, 3), true);
        Check.due("but it had its turn", stayed.parent(2, 3), NONE);
        Check.due("repair()", stayed.repair(), 0);
        Check.due("parent(2, 3)", stayed.parent(2, 3), 3);
    }

    /** "unless their turn comes later" */
    private static void unlessTheirTurnComesLater() {
        for (int w : new int[] {6, 9, 31}) {
            StripeTrees trees = left(w, 0);
            Check.due(w + " was pushed out by 2, and its turn came after 5", trees.parent(w, 0), 5);
            Check.due("no orphan", trees.stripe(0, 1), 0);
        }
        StripeTrees before = left(4, 0);
        Check.due("the turn of 4 comes after 2, but before 5", before.parent(4, 0), NONE);
    }

    /** All 32 in a chain: the way down ends after the last. */
    private static void downTheLongestWay() {
        StripeTrees trees = Scenes.chain();
        trees.leave(31);
        Check.due("31 goes down to the end", trees.join(31, 1, 0), 1);
        Check.due("parent(31, 0)", trees.parent(31, 0), 30);
        trees.leave(31);
        Check.due("with bound 0, too", trees.join(31, 0, 0), 1);
        Check.due("depth(31, 0)", trees.depth(31, 0), 32);
        trees.leave(0);
        Check.due("0 pushes the whole chain down", trees.join(0, 1, 0) >= 1, true);
        Check.due("parent(1, 0)", trees.parent(1, 0), 0);
        Check.due("depth(31, 0)", trees.depth(31, 0), 32);
    }
}
