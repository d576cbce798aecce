/**
 * The edges that the document names under MEMBERS AND TREES, and in promises 13 to 18 and 21. The
 * words over each function are the document's.
 */
public final class EdgeTreesTest {

    private static final int NONE = -1;
    private static final int SOURCE = 100;

    public static void main(String[] args) {
        nobodyHasJoinedAtFirst();
        thereAreThirtyTwo();
        withoutParentAnOrphan();
        childrenInAscendingOrder();
        subtreeOfOneToAll();
        connectedToTheSource();
        depthFromOneToAll();
        sourceIsFullWithF();
        twoAtFirst();
        asManyChildrenAsTheBound();
        childrenInOneStripe();
        sourceHasRoomBelowF();
        roomNeedsConnection();
        roomNeedsFewerThanTheBound();
        roomNeedsNoOtherStripe();
        failedMayHaveRoom();
        innerNeedsABound();
        innerNeedsNoOtherStripe();
        failedMayBeInner();
        rankByPreference();
        rankByBound();
        rankByNumber();
        leastAndGreatestOfAStripe();
        Check.end();
    }

    /** F members with bound 0 (from 0 on) at the source in each stripe, and so no room anywhere. */
    private static StripeTrees full(int f) {
        StripeTrees trees = new StripeTrees();
        trees.setSource(f);
        for (int member = 0; member < f; member++) {
            trees.join(member, 0, 0);
        }
        return trees;
    }

    /** F is 1; 31 with this bound is at the source, and below it, in stripe 0, 0, 1, .. with bound 0. */
    private static StripeTrees below31(int bound, int children) {
        StripeTrees trees = new StripeTrees();
        trees.setSource(1);
        trees.join(31, bound, 0);
        for (int member = 0; member < children; member++) {
            trees.join(member, 0, 0);
        }
        return trees;
    }

    /** "32 members, numbered from 0, none of which has joined at first" */
    private static void nobodyHasJoinedAtFirst() {
        StripeTrees trees = new StripeTrees();
        Check.due("members that have joined", trees.count(0), 0);
        for (int member : new int[] {0, 31}) {
            Check.due("member(" + member + ", 0)", trees.member(member, 0), 0);
            Check.wrongState(trees, "parent(" + member + ", 0)", () -> trees.parent(member, 0));
        }
        for (int stripe = 0; stripe < 4; stripe++) {
            for (int what = 0; what < 6; what++) {
                Check.due("stripe(" + stripe + ", " + what + ") of nobody", trees.stripe(stripe, what), 0);
            }
        }
    }

    private static void thereAreThirtyTwo() {
        StripeTrees trees = new StripeTrees();
        for (int member = 0; member < 32; member++) {
            Check.outside(trees, "join(32, 0, 0)", () -> trees.join(32, 0, 0));
            trees.join(member, 8, 0);
            Check.due("members that have joined", trees.count(0), member + 1);
        }
        Check.outside(trees, "join(32, 0, 0) when all have joined", () -> trees.join(32, 0, 0));
        for (int member = 0; member < 32; member++) {
            int again = member;
            Check.wrongState(trees, "join of one of all", () -> trees.join(again, 8, 0));
        }
        for (int member = 31; member >= 0; member--) {
            trees.leave(member);
            Check.due("members that are left", trees.count(0), member);
        }
    }

    /** "without a parent it is an orphan in this stripe" */
    private static void withoutParentAnOrphan() {
        StripeTrees trees = full(2);
        Check.due("no orphan", trees.stripe(0, 1), 0);
        Check.due("2 is an orphan in all stripes", trees.join(2, 0, 0), 0);
        for (int stripe = 0; stripe < 4; stripe++) {
            Check.due("parent(2, " + stripe + ")", trees.parent(2, stripe), NONE);
            Check.due("parent(1, " + stripe + ")", trees.parent(1, stripe), SOURCE);
            Check.due("orphans", trees.stripe(stripe, 1), 1);
            Check.due("connected", trees.stripe(stripe, 0), 2);
        }
        // One that is not connected, but has a parent, is no orphan.
        StripeTrees cut = Scenes.cutOff();
        Check.due("2 has a parent", cut.parent(2, 0), 1);
        Check.due("1 alone is an orphan", cut.stripe(0, 1), 1);
        Check.due("0 alone is connected", cut.stripe(0, 0), 1);
    }

    /** "The members whose parent in a stripe is a given one are its children there, in ascending order" */
    private static void childrenInAscendingOrder() {
        StripeTrees trees = new StripeTrees();
        trees.setSource(8);
        int[] came = {31, 0, 17, 1, 30, 16, 2, 15};
        int[] ascending = {0, 1, 2, 15, 16, 17, 30, 31};
        for (int i = 0; i < 8; i++) {
            Check.due("no child " + i + " yet", trees.child(SOURCE, 3, i), NONE);
            trees.join(came[i], i, 0);
        }
        for (int i = 0; i < 8; i++) {
            Check.due("child(SOURCE, 3, " + i + ")", trees.child(SOURCE, 3, i), ascending[i]);
        }
        Check.due("child(SOURCE, 3, 8)", trees.child(SOURCE, 3, 8), NONE);
        StripeTrees below = below31(8, 8);
        for (int i = 0; i < 8; i++) {
            Check.due("child(31, 0, " + i + ")", below.child(31, 0, i), i);
        }
        Check.due("child(31, 0, 8)", below.child(31, 0, 8), NONE);
        Check.due("child(31, 1, 0)", below.child(31, 1, 0), NONE);
        Check.due("child(0, 0, 0)", below.child(0, 0, 0), NONE);
    }

    /** "The subtree of a member in a stripe consists of it, its children there, their children there" */
    private static void subtreeOfOneToAll() {
        StripeTrees trees = Scenes.chain();
        Check.due("it alone", trees.subtree(31, 0), 1);
        Check.due("it and its child", trees.subtree(30, 0), 2);
        Check.due("all but one", trees.subtree(1, 0), 31);
        Check.due("all", trees.subtree(0, 0), 32);
        Check.due("its children in another stripe don't count", trees.subtree(0, 1), 1);
        Check.due("an orphan's subtree", Scenes.cutOff().subtree(1, 0), 2);
    }

    /** "A member is connected in a stripe if one comes to the source by going from it to its parent" */
    private static void connectedToTheSource() {
        StripeTrees trees = Scenes.cutOff();
        Check.due("a child of the source", trees.depth(0, 0), 1);
        Check.due("an orphan", trees.depth(1, 0), NONE);
        Check.due("the child of an orphan", trees.depth(2, 0), NONE);
        Check.due("an orphan in another stripe", trees.depth(2, 1), NONE);
        trees.setSource(2);
        Check.due("attached", trees.depth(1, 0), 1);
        Check.due("and its child with it", trees.depth(2, 0), 2);
    }

    /** "its depth there is the number of these steps (1 for a child of the source)" */
    private static void depthFromOneToAll() {
        StripeTrees trees = Scenes.chain();
        for (int member = 0; member < 32; member++) {
            Check.due("depth(" + member + ", 0)", trees.depth(member, 0), member + 1);
            Check.due("depth(" + member + ", 1)", trees.depth(member, 1), member == 0 ? 1 : NONE);
        }
        Check.due("the greatest depth in stripe 0", trees.stripe(0, 2), 32);
        Check.due("the greatest depth in stripe 1", trees.stripe(1, 2), 1);
    }

    /** "The source has at most F children in each stripe (F is 1 to 8 ..)" */
    private static void sourceIsFullWithF() {
        for (int f = 1; f <= 8; f++) {
            StripeTrees trees = full(f);
            for (int stripe = 0; stripe < 4; stripe++) {
                Check.due("children of the source", trees.stripe(stripe, 3), f);
                Check.due("the last of them", trees.child(SOURCE, stripe, f - 1), f - 1);
            }
            Check.due("one more finds none, with F = " + f, trees.join(f, 0, 0), 0);
            for (int stripe = 0; stripe < 4; stripe++) {
                Check.due("children of the source", trees.stripe(stripe, 3), f);
                Check.due("no child more", trees.child(SOURCE, stripe, f), NONE);
            }
        }
    }

    /** "(.. 2 at first)" */
    private static void twoAtFirst() {
        StripeTrees trees = new StripeTrees();
        Check.due("the first", trees.join(0, 0, 0), 4);
        Check.due("room for one more", trees.hasRoom(SOURCE, 0), true);
        Check.due("the second", trees.join(1, 0, 0), 4);
        Check.due("room for no more", trees.hasRoom(SOURCE, 0), false);
        Check.due("the third", trees.join(2, 0, 0), 0);
    }

    /** "A member has, in all stripes together, at most as many children as its bound" */
    private static void asManyChildrenAsTheBound() {
        for (int bound = 0; bound <= 8; bound++) {
            StripeTrees trees = below31(bound, bound);
            for (int child = 0; child < bound; child++) {
                Check.due("the child " + child + " of a bound of " + bound, trees.parent(child, 0), 31);
            }
            Check.due("children of one with bound " + bound, trees.member(31, 5), bound);
            Check.due("where it has them", trees.member(31, 6), bound == 0 ? NONE : 0);
            Check.due("one more finds no place", trees.join(bound, 0, 0), 0);
            Check.due("children of one with bound " + bound, trees.member(31, 5), bound);
            Check.due("members with children", trees.stripe(0, 5), bound == 0 ? 0 : 1);
        }
    }

    /** "and has children in one stripe at most" */
    private static void childrenInOneStripe() {
        StripeTrees trees = below31(8, 0);
        for (int stripe = 0; stripe < 4; stripe++) {
            Check.due("without children it has room in each", trees.hasRoom(31, stripe), true);
        }
        Check.due("a child finds it in one stripe", trees.join(5, 0, 3), 1);
        Check.due("which is the first", trees.member(31, 6), 0);
        for (int stripe = 1; stripe < 4; stripe++) {
            Check.due("parent(5, " + stripe + ")", trees.parent(5, stripe), NONE);
            Check.due("children of 31 there", trees.child(31, stripe, 0), NONE);
        }
        trees.leave(5);
        Check.due("no children again", trees.member(31, 6), NONE);
        Check.due("and room again", trees.hasRoom(31, 3), true);
    }

    /** "The source has room in a stripe if it has fewer than F children there" */
    private static void sourceHasRoomBelowF() {
        for (int f = 1; f <= 8; f++) {
            StripeTrees trees = new StripeTrees();
            trees.setSource(f);
            for (int member = 0; member < f; member++) {
                Check.due("room with fewer than " + f, trees.hasRoom(SOURCE, 2), true);
                trees.join(member, 0, 0);
            }
            Check.due("no room with " + f, trees.hasRoom(SOURCE, 2), false);
            trees.leave(0);
            Check.due("room when one has left", trees.hasRoom(SOURCE, 2), true);
        }
    }

    /** "A member has room in a stripe if it is connected there .." */
    private static void roomNeedsConnection() {
        StripeTrees trees = Scenes.cutOff();
        trees.setBound(1, 8);
        Check.due("an orphan with one child of eight", trees.hasRoom(1, 0), false);
        Check.due("members with room", trees.stripe(0, 4), 0);
        trees.setSource(2);
        Check.due("connected, it has room", trees.hasRoom(1, 0), true);
        Check.due("members with room", trees.stripe(0, 4), 1);
    }

    /** ".. has fewer children in all than its bound .." */
    private static void roomNeedsFewerThanTheBound() {
        for (int bound = 0; bound <= 8; bound++) {
            StripeTrees trees = below31(bound, 0);
            for (int child = 0; child < bound; child++) {
                Check.due(child + " children of " + bound, trees.hasRoom(31, 0), true);
                trees.join(child, 0, 0);
            }
            Check.due(bound + " children of " + bound, trees.hasRoom(31, 0), false);
        }
    }

    /** ".. and has none in another stripe" */
    private static void roomNeedsNoOtherStripe() {
        StripeTrees trees = below31(2, 1);
        Check.due("in the stripe of its child", trees.hasRoom(31, 0), true);
        for (int stripe = 1; stripe < 4; stripe++) {
            Check.due("in another stripe", trees.hasRoom(31, stripe), false);
            Check.due("members with room there", trees.stripe(stripe, 4), 0);
        }
    }

    /** "(Whether it has failed does not matter.)" */
    private static void failedMayHaveRoom() {
        StripeTrees trees = below31(1, 0);
        trees.fail(31);
        Check.due("a failed member has room", trees.hasRoom(31, 0), true);
        Check.due("and is counted", trees.stripe(0, 4), 1);
        Check.due("and is taken", trees.join(0, 0, 0), 1);
        Check.due("till it is full", trees.hasRoom(31, 0), false);
    }

    /** "A member can be inner in a stripe if its bound is greater than 0 .." */
    private static void innerNeedsABound() {
        for (int bound = 0; bound <= 1; bound++) {
            StripeTrees pushes = full(1);
            pushes.join(9, bound, 1);
            Check.due("9 ranks before 0 in stripe 1, whatever its bound", pushes.ranksBefore(9, 0, 1), true);
            Check.due("parent(9, 1) with bound " + bound, pushes.parent(9, 1), bound == 0 ? NONE : SOURCE);
            Check.due("parent(0, 1) with bound " + bound, pushes.parent(0, 1), bound == 0 ? SOURCE : 9);
            Check.due("count(6) with bound " + bound, pushes.count(6), bound);
            StripeTrees carries = new StripeTrees();
            carries.join(0, bound, 0);
            carries.join(1, 1, 1);
            carries.join(2, 0, 3);
            Check.due("the first that can be inner is 0 or 1", carries.parent(2, 0), bound == 0 ? 1 : 0);
            Check.due("and no search was needed", carries.count(7), 0);
        }
    }

    /** ".. and it has no children in another stripe" */
    private static void innerNeedsNoOtherStripe() {
        StripeTrees trees = full(1);
        trees.join(9, 1, 1);
        Check.due("with a child in stripe 1", trees.member(9, 6), 1);
        Check.due("9 ranks before 0 in stripe 2", trees.ranksBefore(9, 0, 2), true);
        Check.due("but can't be inner there", trees.parent(9, 2), NONE);
        // With a child in the very stripe it can: 1 took the place of 0 in stripe 0, with 2 below it.
        StripeTrees pushed = Scenes.pushedOut();
        Check.due("a child in the same stripe", pushed.parent(2, 0), 1);
        Check.due("does not hinder", pushed.parent(1, 0), SOURCE);
        StripeTrees carries = new StripeTrees();
        carries.join(0, 1, 1);
        carries.join(1, 8, 0);
        carries.join(2, 0, 3);
        Check.due("1, which ranks first, in stripe 0", carries.parent(2, 0), 1);
        Check.due("0 in stripe 1", carries.parent(2, 1), 0);
        Check.due("1 ranks first in stripe 2, and has room but for its child", carries.parent(2, 2), NONE);
        StripeTrees third = new StripeTrees();
        third.setSource(3);
        third.join(0, 1, 3);
        third.join(1, 8, 0);
        third.join(3, 2, 1);
        Check.due("1, then 3, then 0", third.join(2, 0, 3), 3);
        Check.due("0 ranks last in stripe 2, but has no child in another one", third.parent(2, 2), 0);
        Check.due("and no search was needed", third.count(7), 0);
    }

    private static void failedMayBeInner() {
        StripeTrees carries = new StripeTrees();
        carries.join(0, 1, 0);
        carries.join(1, 1, 1);
        carries.fail(0);
        carries.join(2, 0, 3);
        Check.due("the failed 0 ranks first and carries", carries.parent(2, 0), 0);
        StripeTrees pushes = full(1);
        pushes.join(9, 0, 1);
        pushes.fail(9);
        pushes.setBound(9, 1);
        Check.due("the failed 9 takes the place of 0", pushes.parent(9, 1), SOURCE);
    }

    /** Two members alone, so that only the rank is looked at. */
    private static void rank(int first, int bound, int preferred, int second, int otherBound, int otherPreferred,
            int stripe, boolean before) {
        StripeTrees trees = new StripeTrees();
        trees.join(first, bound, preferred);
        trees.join(second, otherBound, otherPreferred);
        String what = first + " (bound " + bound + ", prefers " + preferred + ") before " + second + " (bound "
                + otherBound + ", prefers " + otherPreferred + ") in " + stripe;
        Check.due(what, trees.ranksBefore(first, second, stripe), before);
        Check.due("not " + what, trees.ranksBefore(second, first, stripe), !before);
    }

    /** "a member ranks before another one if it prefers this stripe and the other one does not" */
    private static void rankByPreference() {
        for (int stripe = 0; stripe < 4; stripe++) {
            int next = (stripe + 1) % 4;
            int third = (stripe + 2) % 4;
            rank(31, 0, stripe, 0, 8, next, stripe, true);
            rank(31, 0, stripe, 0, 8, next, next, false);
            rank(31, 0, stripe, 0, 8, next, third, false);
        }
    }

    /** "or, if both or none of them do, if its bound is greater" */
    private static void rankByBound() {
        for (int bound = 0; bound < 8; bound++) {
            rank(31, bound + 1, 2, 0, bound, 2, 2, true);
            rank(31, bound + 1, 2, 0, bound, 2, 1, true);
            rank(31, bound + 1, 0, 0, bound, 3, 1, true);
            rank(0, bound + 1, 3, 31, bound, 3, 3, true);
        }
        rank(31, 8, 0, 0, 0, 0, 0, true);
    }

    /** "or, if the bounds are equal, if its number is lower" */
    private static void rankByNumber() {
        for (int bound = 0; bound <= 8; bound++) {
            rank(0, bound, 1, 1, bound, 1, 1, true);
            rank(30, bound, 1, 31, bound, 1, 0, true);
            rank(0, bound, 1, 31, bound, 2, 3, true);
        }
    }

    private static void stripeValues(StripeTrees trees, int stripe, int... values) {
        for (int what = 0; what < 6; what++) {
            Check.due("stripe(" + stripe + ", " + what + ")", trees.stripe(stripe, what), values[what]);
        }
    }

    /** "greatest depth (0 without connected members)", and all or none of each of the other values */
    private static void leastAndGreatestOfAStripe() {
        StripeTrees chain = Scenes.chain();
        stripeValues(chain, 0, 32, 0, 32, 1, 1, 31);
        stripeValues(chain, 1, 1, 31, 1, 1, 0, 0);
        // 1, which is not connected, has a child there all the same.
        stripeValues(Scenes.cutOff(), 0, 1, 1, 1, 1, 0, 1);
        StripeTrees wide = full(8);
        stripeValues(wide, 3, 8, 0, 1, 8, 0, 0);
        StripeTrees rooms = new StripeTrees();
        rooms.setSource(8);
        for (int member = 24; member < 32; member++) {
            rooms.join(member, 1, 0);
            stripeValues(rooms, 2, member - 23, 0, 1, member - 23, member - 23, 0);
        }
        for (int member = 24; member < 32; member++) {
            rooms.leave(member);
        }
        stripeValues(rooms, 0, 0, 0, 0, 0, 0, 0);
    }
}
