/** Promises 12 to 22: what can be asked without changing anything. */
public final class ValuesTest {

    public static void main(String[] args) {
        memberValues();
        parentsAndDepths();
        children();
        subtrees();
        room();
        ranks();
        harm();
        pieces();
        stripeValues();
        counts();
        Check.end();
    }

    private static void due(StripeTrees trees, int member, int... values) {
        for (int what = 0; what < 10; what++) {
            Check.due("member(" + member + ", " + what + ")", trees.member(member, what), values[what]);
        }
    }

    private static void memberValues() {
        StripeTrees trees = Scenes.four();
        trees.tick(2);
        trees.fail(1);
        due(trees, 0, 1, 4, 0, 0, -1, 2, 0, 8, 2, 0);
        due(trees, 1, 1, 4, 1, 1, 5, 2, 1, 8, 2, 0);
        due(trees, 3, 1, 4, 3, 0, -1, 2, 3, 8, 2, 0);
        due(trees, 4, 0, 0, 0, 0, 0, 0, 0, 0, 0, 0);
        trees.leave(1);
        due(trees, 1, 0, 0, 0, 0, 0, 0, 0, 0, 0, 0);
        StripeTrees narrow = Scenes.narrow();
        narrow.tick(1);
        due(narrow, 2, 1, 0, 0, 0, -1, 0, -1, 1, 0, 1);
        Check.outside(trees, "member(-1, 0)", () -> trees.member(-1, 0));
        Check.outside(trees, "member(32, 10)", () -> trees.member(32, 10));
        Check.outside(trees, "member(SOURCE, 0)", () -> trees.member(100, 0));
        Check.illegal(trees, "member(0, -1)", () -> trees.member(0, -1));
        Check.illegal(trees, "member(31, 10)", () -> trees.member(31, 10));
    }

    private static void parentsAndDepths() {
        StripeTrees trees = Scenes.narrow();
        Check.due("parent(0, 3)", trees.parent(0, 3), 100);
        Check.due("parent(1, 0)", trees.parent(1, 0), 0);
        Check.due("parent(1, 1)", trees.parent(1, 1), -1);
        Check.due("depth(0, 0)", trees.depth(0, 0), 1);
        Check.due("depth(1, 0)", trees.depth(1, 0), 2);
        Check.due("depth(1, 1)", trees.depth(1, 1), -1);
        Check.due("below an orphan nobody is connected", Scenes.cutOff().depth(2, 0), -1);
        trees.fail(0);
        Check.due("depth does not ask for failures", trees.depth(1, 0), 2);
        Check.outside(trees, "parent(-1, 0)", () -> trees.parent(-1, 0));
        Check.outside(trees, "parent(32, 0)", () -> trees.parent(32, 0));
        Check.outside(trees, "parent(SOURCE, 0)", () -> trees.parent(100, 0));
        Check.outside(trees, "parent(31, 4)", () -> trees.parent(31, 4));
        Check.outside(trees, "parent(0, -1)", () -> trees.parent(0, -1));
        Check.wrongState(trees, "parent(31, 3)", () -> trees.parent(31, 3));
        Check.outside(trees, "depth(-1, 0)", () -> trees.depth(-1, 0));
        Check.outside(trees, "depth(SOURCE, 0)", () -> trees.depth(100, 0));
        Check.outside(trees, "depth(3, 4)", () -> trees.depth(3, 4));
        Check.wrongState(trees, "depth(3, 0)", () -> trees.depth(3, 0));
    }

    private static void children() {
        StripeTrees trees = Scenes.four();
        Check.due("child(0, 0, 0)", trees.child(0, 0, 0), 2);
        Check.due("child(0, 0, 1)", trees.child(0, 0, 1), 3);
        Check.due("child(0, 0, 2)", trees.child(0, 0, 2), -1);
        Check.due("child(0, 1, 0)", trees.child(0, 1, 0), -1);
        Check.due("child(SOURCE, 3, 0)", trees.child(100, 3, 0), 0);
        Check.due("child(SOURCE, 3, 1)", trees.child(100, 3, 1), 3);
        Check.due("child(SOURCE, 3, MAX)", trees.child(100, 3, Integer.MAX_VALUE), -1);
        Check.outside(trees, "child(-1, 0, -1)", () -> trees.child(-1, 0, -1));
        Check.outside(trees, "child(32, 0, 0)", () -> trees.child(32, 0, 0));
        Check.outside(trees, "child(101, 0, 0)", () -> trees.child(101, 0, 0));
        Check.outside(trees, "child(SOURCE, 4, -1)", () -> trees.child(100, 4, -1));
        Check.outside(trees, "child(0, -1, 0)", () -> trees.child(0, -1, 0));
        Check.illegal(trees, "child(SOURCE, 0, -1)", () -> trees.child(100, 0, -1));
        Check.illegal(trees, "child(4, 0, -1), of one that has not joined", () -> trees.child(4, 0, -1));
        Check.wrongState(trees, "child(4, 0, 0)", () -> trees.child(4, 0, 0));
    }

    private static void subtrees() {
        StripeTrees trees = Scenes.four();
        Check.due("subtree(0, 0)", trees.subtree(0, 0), 3);
        Check.due("subtree(0, 1)", trees.subtree(0, 1), 1);
        trees.setSource(1);
        Check.due("subtree(0, 0) below a source of one", trees.subtree(0, 0), 4);
        StripeTrees deep = new StripeTrees();
        deep.setSource(1);
        for (int member = 0; member < 4; member++) {
            deep.join(member, 1, 0);
        }
        Check.due("a chain of four", deep.subtree(0, 0), 4);
        Check.due("the rest of it", deep.subtree(2, 0), 2);
        Check.due("an orphan alone", deep.subtree(3, 1), 1);
        Check.due("an orphan with one below it", Scenes.cutOff().subtree(1, 0), 2);
        Check.outside(trees, "subtree(-1, 0)", () -> trees.subtree(-1, 0));
        Check.outside(trees, "subtree(SOURCE, 0)", () -> trees.subtree(100, 0));
        Check.outside(trees, "subtree(9, 4)", () -> trees.subtree(9, 4));
        Check.wrongState(trees, "subtree(9, 0)", () -> trees.subtree(9, 0));
    }

    private static void room() {
        StripeTrees trees = Scenes.four();
        Check.due("the source is full", trees.hasRoom(100, 0), false);
        Check.due("0 has two of four", trees.hasRoom(0, 0), true);
        Check.due("0 has children in another stripe", trees.hasRoom(0, 1), false);
        trees.fail(0);
        Check.due("a failure does not matter", trees.hasRoom(0, 0), true);
        trees.setBound(0, 2);
        Check.due("0 has two of two", trees.hasRoom(0, 0), false);
        trees.setSource(3);
        Check.due("the source has two of three", trees.hasRoom(100, 2), true);
        StripeTrees narrow = Scenes.narrow();
        Check.due("a member with bound 0 has no room", narrow.hasRoom(2, 0), false);
        narrow.setBound(1, 3);
        Check.due("1 took the source in stripe 1 and has 0 and 2 there", narrow.hasRoom(1, 1), true);
        Check.due("so it has no room in stripe 0", narrow.hasRoom(1, 0), false);
        StripeTrees cut = Scenes.cutOff();
        cut.setBound(1, 8);
        Check.due("1 is an orphan in stripe 0", cut.hasRoom(1, 0), false);
        Check.outside(trees, "hasRoom(-1, 0)", () -> trees.hasRoom(-1, 0));
        Check.outside(trees, "hasRoom(99, 0)", () -> trees.hasRoom(99, 0));
        Check.outside(trees, "hasRoom(SOURCE, 4)", () -> trees.hasRoom(100, 4));
        Check.outside(trees, "hasRoom(7, -1)", () -> trees.hasRoom(7, -1));
        Check.wrongState(trees, "hasRoom(7, 0)", () -> trees.hasRoom(7, 0));
    }

    private static void ranks() {
        StripeTrees trees = new StripeTrees();
        trees.join(0, 1, 1);
        trees.join(1, 5, 0);
        trees.join(2, 1, 1);
        trees.join(3, 2, 1);
        Check.due("0 prefers stripe 1", trees.ranksBefore(0, 1, 1), true);
        Check.due("1 does not", trees.ranksBefore(1, 0, 1), false);
        Check.due("none prefers stripe 2, and 1 has the greater bound", trees.ranksBefore(1, 0, 2), true);
        Check.due("and 0 the lower", trees.ranksBefore(0, 1, 2), false);
        Check.due("both prefer stripe 1, and 3 has the greater bound", trees.ranksBefore(3, 0, 1), true);
        Check.due("equal bounds: the lower number", trees.ranksBefore(0, 2, 1), true);
        Check.due("equal bounds: the higher number", trees.ranksBefore(2, 0, 1), false);
        Check.outside(trees, "ranksBefore(-1, -1, 0)", () -> trees.ranksBefore(-1, -1, 0));
        Check.outside(trees, "ranksBefore(0, 32, 0)", () -> trees.ranksBefore(0, 32, 0));
        Check.outside(trees, "ranksBefore(SOURCE, 0, 0)", () -> trees.ranksBefore(100, 0, 0));
        Check.outside(trees, "ranksBefore(0, 0, 4)", () -> trees.ranksBefore(0, 0, 4));
        Check.illegal(trees, "ranksBefore(0, 0, 0)", () -> trees.ranksBefore(0, 0, 0));
        Check.illegal(trees, "ranksBefore(9, 9, 0), which has not joined", () -> trees.ranksBefore(9, 9, 0));
        Check.wrongState(trees, "ranksBefore(0, 9, 0)", () -> trees.ranksBefore(0, 9, 0));
        Check.wrongState(trees, "ranksBefore(9, 0, 0)", () -> trees.ranksBefore(9, 0, 0));
    }

    private static void harm() {
        StripeTrees trees = Scenes.four();
        Check.due("harm(0)", trees.harm(0), 2);
        Check.due("harm(3)", trees.harm(3), 2);
        StripeTrees one = Scenes.four();
        one.setSource(1);
        Check.due("below a source of one all are below 1 in stripe 1", one.harm(1), 3);
        trees.fail(2);
        Check.due("a failed member can't be harmed", trees.harm(0), 1);
        Check.due("a failed member harms no more", trees.harm(2), 0);
        StripeTrees deep = new StripeTrees();
        deep.setSource(1);
        for (int member = 0; member < 5; member++) {
            deep.join(member, 1, 0);
        }
        Check.due("all below are harmed, not the children alone", deep.harm(0), 4);
        Check.due("harm(2)", deep.harm(2), 2);
        Check.due("harm(4), which has no children", deep.harm(4), 0);
        deep.fail(1);
        Check.due("what a failure above has cut off can't be lost", deep.harm(2), 0);
        Check.due("harm(0) above the failure", deep.harm(0), 0);
        unconnectedHarm();
        Check.outside(trees, "harm(-1)", () -> trees.harm(-1));
        Check.outside(trees, "harm(32)", () -> trees.harm(32));
        Check.outside(trees, "harm(SOURCE)", () -> trees.harm(100));
        Check.wrongState(trees, "harm(31)", () -> trees.harm(31));
    }

    private static void unconnectedHarm() {
        StripeTrees trees = Scenes.cutOff();
        Check.due("1 keeps 2", trees.parent(2, 0), 1);
        Check.due("but gives it no piece", trees.harm(1), 0);
    }

    private static void pieces() {
        StripeTrees trees = Scenes.four();
        Check.due("pieces(2)", trees.pieces(2), 4);
        trees.fail(0);
        Check.due("one piece came through 0", trees.pieces(2), 3);
        Check.due("a failed member gets none", trees.pieces(0), 0);
        Check.due("1 is not below 0", trees.pieces(1), 4);
        StripeTrees narrow = Scenes.narrow();
        Check.due("pieces(1)", narrow.pieces(1), 1);
        Check.outside(trees, "pieces(-1)", () -> trees.pieces(-1));
        Check.outside(trees, "pieces(32)", () -> trees.pieces(32));
        Check.outside(trees, "pieces(SOURCE)", () -> trees.pieces(100));
        Check.wrongState(trees, "pieces(31)", () -> trees.pieces(31));
    }

    private static void dueStripe(StripeTrees trees, int stripe, int... values) {
        for (int what = 0; what < 6; what++) {
            Check.due("stripe(" + stripe + ", " + what + ")", trees.stripe(stripe, what), values[what]);
        }
    }

    private static void stripeValues() {
        StripeTrees trees = Scenes.four();
        dueStripe(trees, 0, 4, 0, 2, 2, 1, 1);
        trees.fail(0);
        dueStripe(trees, 0, 4, 0, 2, 2, 1, 1);
        StripeTrees narrow = Scenes.narrow();
        dueStripe(narrow, 0, 3, 0, 2, 1, 0, 1);
        dueStripe(narrow, 3, 1, 2, 1, 1, 0, 0);
        StripeTrees chain = new StripeTrees();
        chain.setSource(1);
        for (int member = 0; member < 3; member++) {
            chain.join(member, 2, 0);
        }
        // Source {0 {1, 2}}: 1 and 2 have room, 0 has not.
        dueStripe(chain, 0, 3, 0, 2, 1, 2, 1);
        // Source {0}, and apart from it 1 {2}.
        dueStripe(Scenes.cutOff(), 0, 1, 1, 1, 1, 0, 1);
        Check.outside(trees, "stripe(-1, 0)", () -> trees.stripe(-1, 0));
        Check.outside(trees, "stripe(4, 6)", () -> trees.stripe(4, 6));
        Check.illegal(trees, "stripe(0, -1)", () -> trees.stripe(0, -1));
        Check.illegal(trees, "stripe(3, 6)", () -> trees.stripe(3, 6));
    }

    private static void counts() {
        StripeTrees trees = Scenes.four();
        trees.fail(0);
        trees.tick(3);
        // Two blocks with 0 failed: 4 + 3 + 3 pieces each. Then 0 leaves, and the block of time 3 is
        // sent to 1, 2 and 3.
        int last = trees.pieces(1) + trees.pieces(2) + trees.pieces(3);
        Check.due("count(0)", trees.count(0), 3);
        Check.due("count(1)", trees.count(1), 3);
        Check.due("count(2)", trees.count(2), 20 + last);
        Check.due("count(3)", trees.count(3), 9);
        Check.due("count(4)", trees.count(4), 0);
        Check.due("count(5)", trees.count(5), 1);
        Check.due("count(6)", trees.count(6), 2);
        Check.due("count(7)", trees.count(7), 0);
        Check.illegal(trees, "count(-1)", () -> trees.count(-1));
        Check.illegal(trees, "count(8)", () -> trees.count(8));
    }
}
