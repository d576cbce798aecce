/** Promises 10 and 11: tick and time; and which blocks are had and missed. */
public final class TimeTest {

    public static void main(String[] args) {
        emptyTicks();
        blocks();
        failuresAndBlocks();
        threePiecesAreEnough();
        severalNoticedInOneTick();
        refusals();
        Check.end();
    }

    private static void emptyTicks() {
        StripeTrees trees = new StripeTrees();
        Check.due("tick(1)", trees.tick(1), 0);
        Check.due("time()", trees.time(), 1);
        Check.due("tick(200)", trees.tick(200), 0);
        Check.due("time()", trees.time(), 201);
        Check.due("blocks are sent to nobody too", trees.count(1), 201);
        trees.undo();
        Check.due("time() after undo", trees.time(), 1);
        Check.due("blocks sent after undo", trees.count(1), 1);
    }

    private static void blocks() {
        StripeTrees trees = Scenes.narrow();
        Check.due("1 and 2 get one piece of four and miss all", trees.tick(5), 10);
        Check.due("pieces got by 0", trees.member(0, 7), 20);
        Check.due("blocks had by 0", trees.member(0, 8), 5);
        Check.due("blocks missed by 0", trees.member(0, 9), 0);
        Check.due("pieces got by 1", trees.member(1, 7), 5);
        Check.due("blocks had by 1", trees.member(1, 8), 0);
        Check.due("blocks missed by 1", trees.member(1, 9), 5);
        Check.due("count(1)", trees.count(1), 5);
        Check.due("count(2)", trees.count(2), 30);
        Check.due("count(3)", trees.count(3), 5);
        Check.due("count(4)", trees.count(4), 10);
        trees.leave(1);
        Check.due("count(2) after one has left", trees.count(2), 30);
        Check.due("count(4) after one has left", trees.count(4), 10);
    }

    private static void failuresAndBlocks() {
        StripeTrees trees = Scenes.narrow();
        trees.fail(0);
        // Two ticks in which 0 gets nothing and misses nothing, and nothing comes through it; then it
        // leaves, and 1 takes the source in all stripes, while 2 finds no place.
        Check.due("tick(2)", trees.tick(2), 4);
        Check.due("a failed member misses nothing", trees.member(0, 9), 0);
        Check.due("a failed member gets nothing", trees.member(0, 7), 0);
        Check.due("nothing comes through it", trees.member(1, 7), 0);
        Check.due("tick(2): noticed before the block of time 3", trees.tick(2), 2);
        Check.due("count(5)", trees.count(5), 1);
        Check.due("blocks had by 1", trees.member(1, 8), 2);
        Check.due("pieces got by 1", trees.member(1, 7), 8);
        Check.due("blocks missed by 1", trees.member(1, 9), 2);
        Check.due("blocks missed by 2", trees.member(2, 9), 4);
    }

    private static void threePiecesAreEnough() {
        StripeTrees trees = Scenes.four();
        trees.fail(0);
        // In stripe 0 the members 2 and 3 lie below 0: they get three pieces, and that is enough.
        Check.due("pieces(2)", trees.pieces(2), 3);
        Check.due("tick(1)", trees.tick(1), 0);
        Check.due("blocks had by 2", trees.member(2, 8), 1);
        Check.due("pieces got by 2", trees.member(2, 7), 3);
        trees.fail(1);
        // In stripe 1 they lie below 1: two pieces are not.
        Check.due("pieces(2)", trees.pieces(2), 2);
        Check.due("tick(1)", trees.tick(1), 2);
        Check.due("blocks had by 2", trees.member(2, 8), 1);
        Check.due("blocks missed by 3", trees.member(3, 9), 1);
        Check.due("blocks missed by 0", trees.member(0, 9), 0);
    }

    private static void severalNoticedInOneTick() {
        StripeTrees trees = Scenes.four();
        trees.setDelay(2);
        trees.fail(3);
        trees.setDelay(1);
        trees.tick(1);
        trees.fail(1);
        Check.due("both are noticed at time 2", trees.member(3, 4) == 2 && trees.member(1, 4) == 2, true);
        trees.tick(1);
        Check.due("count(5)", trees.count(5), 2);
        Check.due("count(0)", trees.count(0), 2);
        // A long call notices along the way, too.
        trees.setDelay(4);
        trees.fail(0);
        trees.setDelay(7);
        trees.fail(2);
        trees.tick(200);
        Check.due("time()", trees.time(), 202);
        Check.due("count(5)", trees.count(5), 4);
        Check.due("count(1)", trees.count(1), 202);
        Check.due("count(0)", trees.count(0), 0);
    }

    private static void refusals() {
        StripeTrees trees = Scenes.four();
        Check.illegal(trees, "tick(0)", () -> trees.tick(0));
        Check.illegal(trees, "tick(-1)", () -> trees.tick(-1));
        Check.illegal(trees, "tick(201)", () -> trees.tick(201));
        Check.illegal(trees, "tick(MAX)", () -> trees.tick(Integer.MAX_VALUE));
    }
}
