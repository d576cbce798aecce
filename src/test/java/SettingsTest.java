/** Promises 5 to 9: setBound, setSource, setDelay, repair, rejoin. */
public final class SettingsTest {

    public static void main(String[] args) {
        boundIsLowered();
        boundIsRaised();
        sourceIsNarrowed();
        sourceIsWidened();
        delay();
        repair();
        rejoin();
        refusals();
        Check.end();
    }

    private static void boundIsLowered() {
        StripeTrees trees = new StripeTrees();
        trees.setSource(1);
        trees.join(10, 3, 0);
        trees.join(1, 0, 1);
        trees.join(2, 0, 0);
        trees.join(3, 0, 1);
        Check.due("10 has three children", trees.member(10, 5), 3);
        Check.due("setBound(10, 1)", trees.setBound(10, 1), 3);
        Check.due("2, which prefers the stripe, stays", trees.child(10, 0, 0), 2);
        Check.due("the others are cut", trees.child(10, 0, 1), -1);
        Check.due("1 is an orphan", trees.parent(1, 0), -1);
        Check.due("setBound(10, 0)", trees.setBound(10, 0), 1);
        Check.due("nobody is left below 10", trees.member(10, 6), -1);
        Check.due("its bound", trees.member(10, 1), 0);
    }

    private static void boundIsRaised() {
        StripeTrees trees = Scenes.narrow();
        trees.join(3, 0, 0);
        Check.due("no place for 3", trees.parent(3, 0), -1);
        Check.due("setBound(0, 3)", trees.setBound(0, 3), 2);
        Check.due("orphans are attached when the bound is raised", trees.parent(3, 0), 0);
        Check.due("setBound(0, 3) again", trees.setBound(0, 3), 3);
        Check.due("setBound(0, 8)", trees.setBound(0, 8), 3);
        Check.due("member(0, 5)", trees.member(0, 5), 3);
    }

    private static void sourceIsNarrowed() {
        StripeTrees trees = Scenes.four();
        Check.due("setSource(1)", trees.setSource(1), 2);
        for (int stripe = 0; stripe < 4; stripe++) {
            Check.due("the one that prefers the stripe stays", trees.child(100, stripe, 0), stripe);
            Check.due("only one stays", trees.child(100, stripe, 1), -1);
            Check.due("the other one went below it", trees.stripe(stripe, 1), 0);
            Check.due("stripe(" + stripe + ", 3)", trees.stripe(stripe, 3), 1);
        }
        Check.due("0 below 1 in stripe 1", trees.parent(0, 1), 1);
        Check.due("count(7)", trees.count(7), 0);
    }

    private static void sourceIsWidened() {
        StripeTrees trees = Scenes.narrow();
        Check.due("setSource(8)", trees.setSource(8), 1);
        Check.due("1 stays below 0 in stripe 0", trees.parent(1, 0), 0);
        Check.due("1 comes to the source in stripe 1", trees.parent(1, 1), 100);
        Check.due("setSource(8) again", trees.setSource(8), 8);
        Check.due("stripe(1, 3)", trees.stripe(1, 3), 3);
    }

    private static void delay() {
        StripeTrees trees = Scenes.four();
        Check.due("setDelay(20)", trees.setDelay(20), 3);
        Check.due("setDelay(1)", trees.setDelay(1), 20);
        Check.due("fail(0)", trees.fail(0), 1);
        Check.due("setDelay(5)", trees.setDelay(5), 1);
        Check.due("an earlier failure keeps its time", trees.member(0, 4), 1);
        Check.due("fail(1)", trees.fail(1), 5);
    }

    private static void repair() {
        StripeTrees trees = new StripeTrees();
        Check.due("repair() of nothing", trees.repair(), 0);
        for (int member = 0; member < 4; member++) {
            trees.join(member, 4, member);
        }
        Check.due("2 waits in stripe 3", trees.parent(2, 3), -1);
        Check.due("repair()", trees.repair(), 0);
        Check.due("2 is below 3", trees.parent(2, 3), 3);
        StripeTrees narrow = Scenes.narrow();
        Check.due("repair(): 1 and 2 stay orphans in three stripes", narrow.repair(), 6);
        Check.due("repair() is undoable", narrow.undo(), 3);
        Check.due("repair(): 0 in stripe 0, 1 and 2 in the others", Scenes.pushedOut().repair(), 7);
    }

    private static void rejoin() {
        StripeTrees trees = Scenes.four();
        Check.due("rejoin(2, 0): back below 0", trees.rejoin(2, 0), 0);
        Check.due("rejoin(0, 0): back to the source", trees.rejoin(0, 0), 100);
        Check.due("with its subtree", trees.subtree(0, 0), 3);
        // Member 0 leaves a place at the source in stripe 1 and takes it again.
        Check.due("rejoin(0, 1)", trees.rejoin(0, 1), 100);
        StripeTrees narrow = Scenes.narrow();
        Check.due("rejoin(1, 2): an orphan stays one", narrow.rejoin(1, 2), -1);
        Check.due("it alone is attached", narrow.parent(2, 2), -1);
        narrow.setBound(0, 0);
        Check.due("rejoin(0, 3)", narrow.rejoin(0, 3), 100);
        onlyTheOneIsAttached();
    }

    private static void onlyTheOneIsAttached() {
        StripeTrees trees = new StripeTrees();
        for (int member = 0; member < 4; member++) {
            trees.join(member, 4, member);
        }
        Check.due("rejoin(1, 3)", trees.rejoin(1, 3), 3);
        Check.due("2 stays an orphan in stripe 3", trees.parent(2, 3), -1);
        Check.due("rejoin(2, 3)", trees.rejoin(2, 3), 3);
    }

    private static void refusals() {
        StripeTrees trees = Scenes.four();
        Check.outside(trees, "setBound(-1, 9)", () -> trees.setBound(-1, 9));
        Check.outside(trees, "setBound(32, 0)", () -> trees.setBound(32, 0));
        Check.illegal(trees, "setBound(4, 9), of one that has not joined", () -> trees.setBound(4, 9));
        Check.illegal(trees, "setBound(0, -1)", () -> trees.setBound(0, -1));
        Check.wrongState(trees, "setBound(4, 8)", () -> trees.setBound(4, 8));
        Check.illegal(trees, "setSource(0)", () -> trees.setSource(0));
        Check.illegal(trees, "setSource(9)", () -> trees.setSource(9));
        Check.illegal(trees, "setDelay(0)", () -> trees.setDelay(0));
        Check.illegal(trees, "setDelay(21)", () -> trees.setDelay(21));
        Check.outside(trees, "rejoin(-1, 0)", () -> trees.rejoin(-1, 0));
        Check.outside(trees, "rejoin(32, 0)", () -> trees.rejoin(32, 0));
        Check.outside(trees, "rejoin(4, 4), of one that has not joined", () -> trees.rejoin(4, 4));
        Check.outside(trees, "rejoin(0, -1)", () -> trees.rejoin(0, -1));
        Check.wrongState(trees, "rejoin(4, 3)", () -> trees.rejoin(4, 3));
    }
}
