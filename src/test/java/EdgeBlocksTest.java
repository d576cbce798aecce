/**
 * The edges that the document names under BLOCKS, and in promises 10 to 12, 19, 20 and 22; the words over
 * each function are the document's.
 */
public final class EdgeBlocksTest {

    private static final int NONE = -1;

    public static void main(String[] args) {
        timeIncreasesByOne();
        aBlockInEachTick();
        fromNoPieceToFour();
        failedAboveOrNot();
        failedMissesNothing();
        manyBlocks();
        batchesAreTicks();
        harmFromNobodyToAll();
        harmByTheTreesAsTheyAre();
        harmOfThoseThatKeepThree();
        piecesOfAFailedMember();
        valuesOfAMember();
        countsOfAll();
        Check.end();
    }

    /** "In each tick the time increases by 1" */
    private static void timeIncreasesByOne() {
        StripeTrees trees = new StripeTrees();
        Check.due("time() at first", trees.time(), 0);
        trees.tick(1);
        Check.due("time() after one", trees.time(), 1);
        trees.tick(199);
        Check.due("time() after 199 more", trees.time(), 200);
        trees.tick(200);
        Check.due("time() after 200 more", trees.time(), 400);
        Check.illegal(trees, "tick(201)", () -> trees.tick(201));
        Check.illegal(trees, "tick(0)", () -> trees.tick(0));
        trees.join(0, 0, 0);
        trees.repair();
        trees.fail(0);
        Check.due("nothing else lets time pass", trees.time(), 400);
        StripeTrees longest = new StripeTrees();
        for (int call = 0; call < 510; call++) {
            longest.tick(200);
        }
        Check.due("the greatest time that can be reached", longest.time(), 102000);
        Check.due("and as many blocks", longest.count(1), 102000);
    }

    /** "and then a block is sent: one piece for each stripe", also to nobody */
    private static void aBlockInEachTick() {
        StripeTrees trees = new StripeTrees();
        Check.due("tick(1) with nobody", trees.tick(1), 0);
        Check.due("sent", trees.count(1), 1);
        Check.due("pieces", trees.count(2), 0);
        trees.join(0, 0, 0);
        Check.due("tick(1) with one", trees.tick(1), 0);
        Check.due("sent", trees.count(1), 2);
        Check.due("pieces", trees.count(2), 4);
    }

    private static void block(String what, StripeTrees trees, int member, int pieces) {
        int missed = pieces < 3 ? 1 : 0;
        Check.due(what + ": pieces()", trees.pieces(member), pieces);
        Check.due(what + ": missed", trees.tick(1), missed);
        Check.due(what + ": pieces got", trees.member(member, 7), pieces);
        Check.due(what + ": blocks had", trees.member(member, 8), 1 - missed);
        Check.due(what + ": blocks missed", trees.member(member, 9), missed);
        Check.due(what + ": missed by all", trees.count(4), missed);
        Check.due(what + ": had by all", trees.count(3), trees.count(0) - missed);
    }

    /** "It has the block if it gets at least three pieces." */
    private static void fromNoPieceToFour() {
        StripeTrees trees = new StripeTrees();
        trees.setSource(1);
        trees.join(0, 0, 0);
        block("four", trees, 0, 4);
        StripeTrees none = new StripeTrees();
        none.setSource(1);
        none.join(0, 0, 0);
        none.join(1, 0, 0);
        block("none", none, 1, 0);
        StripeTrees one = new StripeTrees();
        one.setSource(1);
        one.join(0, 8, 0);
        one.join(1, 0, 0);
        block("one", one, 1, 1);
        StripeTrees two = new StripeTrees();
        two.join(0, 1, 0);
        two.join(1, 1, 1);
        two.join(2, 0, 3);
        block("two", two, 2, 2);
        StripeTrees three = new StripeTrees();
        three.join(0, 4, 0);
        three.join(1, 4, 1);
        three.join(2, 4, 2);
        block("three", three, 2, 3);
    }

    /** "if it is connected there, and neither it nor a member between it and the source has failed" */
    private static void failedAboveOrNot() {
        StripeTrees trees = Scenes.chain();
        trees.fail(5);
        int[] pieces = new int[32];
        for (int member = 0; member < 32; member++) {
            pieces[member] = member == 0 ? 4 : member < 5 ? 1 : 0;
            Check.due("pieces(" + member + ") with 5 failed", trees.pieces(member), pieces[member]);
        }
        Check.due("all miss but 0, and 5, which has failed", trees.tick(1), 30);
        for (int member = 0; member < 32; member++) {
            Check.due("pieces got by " + member, trees.member(member, 7), pieces[member]);
            Check.due("blocks missed by " + member, trees.member(member, 9), member == 0 || member == 5 ? 0 : 1);
        }
        StripeTrees last = Scenes.chain();
        last.fail(31);
        Check.due("a failure at the end takes nothing from the others", last.pieces(30), 1);
        StripeTrees first = Scenes.chain();
        first.fail(0);
        Check.due("one at the head all", first.pieces(1), 0);
        Check.due("and 0 itself", first.pieces(0), 0);
        StripeTrees beside = Scenes.four();
        beside.fail(1);
        Check.due("0 is not below 1 in any stripe", beside.pieces(0), 4);
    }

    /** "A member that has joined and has not failed, but does not have the block, misses it." */
    private static void failedMissesNothing() {
        StripeTrees trees = new StripeTrees();
        trees.setSource(1);
        trees.setDelay(20);
        trees.join(0, 0, 0);
        trees.join(1, 0, 0);
        Check.due("1 misses", trees.tick(1), 1);
        trees.fail(1);
        Check.due("till it fails", trees.tick(1), 0);
        Check.due("missed by 1", trees.member(1, 9), 1);
        trees.fail(0);
        Check.due("0 gets nothing, and misses nothing", trees.tick(1), 0);
        Check.due("had by 0", trees.member(0, 8), 2);
        Check.due("pieces got by 0", trees.member(0, 7), 8);
        Check.due("missed by 0", trees.member(0, 9), 0);
        Check.due("sent all the same", trees.count(1), 3);
        trees.join(2, 0, 0);
        Check.due("one that joins later misses", trees.tick(1), 1);
        Check.due("not the blocks from before", trees.member(2, 9), 1);
    }

    /** "Returns how many blocks were missed in them, by all members together." */
    private static void manyBlocks() {
        StripeTrees trees = new StripeTrees();
        trees.setSource(1);
        for (int member = 0; member < 32; member++) {
            trees.join(member, 0, 0);
        }
        Check.due("31 miss 200 blocks", trees.tick(200), 6200);
        Check.due("once more, and not together with those before", trees.tick(200), 6200);
        Check.due("31 miss one", trees.tick(1), 31);
        Check.due("missed by 31", trees.member(31, 9), 401);
        Check.due("missed by all", trees.count(4), 12431);
        Check.due("pieces got by 0", trees.member(0, 7), 1604);
        Check.due("had by all", trees.count(3), 401);
    }

    /** One call of many ticks is as many calls of one. */
    private static void batchesAreTicks() {
        StripeTrees single = busy();
        int missed = 0;
        for (int tick = 0; tick < 30; tick++) {
            missed += single.tick(1);
        }
        StripeTrees batch = busy();
        Check.due("missed in 30 ticks", batch.tick(30), missed);
        Check.due("digest after 30 ticks", batch.digest(), single.digest());
        StripeTrees halves = busy();
        Check.due("missed in 13 and 17 ticks", halves.tick(13) + halves.tick(17), missed);
        Check.due("digest after 13 and 17 ticks", halves.digest(), single.digest());
    }

    /** Failures that are noticed at 1, 2 (two of them), 7, 13 and 20, of the first and the last member, too. */
    private static StripeTrees busy() {
        StripeTrees trees = new StripeTrees();
        trees.setSource(1);
        for (int member = 0; member < 12; member++) {
            trees.join(member, member % 4, member % 3);
        }
        trees.join(31, 8, 3);
        int[] delays = {1, 2, 2, 13, 20, 7};
        int[] failing = {1, 3, 5, 7, 0, 31};
        for (int i = 0; i < delays.length; i++) {
            trees.setDelay(delays[i]);
            trees.fail(failing[i]);
        }
        return trees;
    }

    /** "how many other members .. would get fewer pieces of a block .. if a member had failed in addition" */
    private static void harmFromNobodyToAll() {
        StripeTrees trees = Scenes.chain();
        for (int member = 0; member < 32; member++) {
            Check.due("harm(" + member + ")", trees.harm(member), 31 - member);
        }
        StripeTrees ends = new StripeTrees();
        ends.setSource(1);
        ends.join(31, 2, 0);
        ends.join(0, 0, 0);
        Check.due("0, the first member, is below 31, the last", ends.harm(31), 1);
        Check.due("and harms nobody", ends.harm(0), 0);
        StripeTrees alone = new StripeTrees();
        alone.join(7, 8, 0);
        Check.due("alone", alone.harm(7), 0);
    }

    /** "that have not failed", "by the trees as they are now", "0 if it has failed already" */
    private static void harmByTheTreesAsTheyAre() {
        StripeTrees trees = Scenes.chain();
        trees.fail(31);
        Check.due("31 has failed and can't be harmed", trees.harm(30), 0);
        Check.due("30 can", trees.harm(29), 1);
        trees.fail(5);
        Check.due("between 0 and 5 there are four", trees.harm(0), 4);
        Check.due("between 3 and 5 there is one", trees.harm(3), 1);
        Check.due("between 4 and 5 there is nobody", trees.harm(4), 0);
        Check.due("5 has failed already", trees.harm(5), 0);
        Check.due("below 5 nothing is lost", trees.harm(6), 0);
        Check.due("nobody was harmed by asking", trees.pieces(4), 1);
        Check.due("below an orphan nothing comes", Scenes.cutOff().harm(1), 0);
        trees.tick(3);
        Check.due("when 5 and 31 are noticed, all others are below 0", trees.harm(0), 29);
    }

    /** "fewer pieces", also if the three that are enough are left */
    private static void harmOfThoseThatKeepThree() {
        StripeTrees trees = Scenes.four();
        Check.due("2 and 3 keep three of four", trees.harm(0), 2);
        Check.due("so do 1 and 3", trees.harm(1), 2);
        trees.fail(0);
        Check.due("they would keep two of three", trees.harm(1), 2);
        Check.due("1 and 3 are below 2", trees.harm(2), 2);
        trees.fail(1);
        Check.due("of these 1 has failed by now", trees.harm(2), 1);
    }

    /** "Returns 0 to 4; 0 if it has failed." */
    private static void piecesOfAFailedMember() {
        StripeTrees trees = new StripeTrees();
        trees.join(0, 8, 0);
        Check.due("at the source in all stripes", trees.pieces(0), 4);
        trees.fail(0);
        Check.due("failed", trees.pieces(0), 0);
        trees.undo();
        Check.due("not failed", trees.pieces(0), 4);
    }

    private static void values(StripeTrees trees, int member, int... values) {
        for (int what = 0; what < 10; what++) {
            Check.due("member(" + member + ", " + what + ")", trees.member(member, what), values[what]);
        }
    }

    /** "0 for 1 to 9 if it has not joined", "NONE if it has not failed", "NONE without children" */
    private static void valuesOfAMember() {
        StripeTrees trees = new StripeTrees();
        values(trees, 31, 0, 0, 0, 0, 0, 0, 0, 0, 0, 0);
        trees.setSource(1);
        trees.join(31, 8, 3);
        values(trees, 31, 1, 8, 3, 0, NONE, 0, NONE, 0, 0, 0);
        for (int member = 0; member < 8; member++) {
            trees.join(member, 0, 0);
        }
        values(trees, 31, 1, 8, 3, 0, NONE, 8, 0, 0, 0, 0);
        values(trees, 7, 1, 0, 0, 0, NONE, 0, NONE, 0, 0, 0);
        trees.tick(1);
        trees.setDelay(20);
        trees.fail(31);
        values(trees, 31, 1, 8, 3, 1, 21, 8, 0, 4, 1, 0);
        values(trees, 7, 1, 0, 0, 0, NONE, 0, NONE, 1, 0, 1);
        trees.tick(19);
        values(trees, 31, 1, 8, 3, 1, 21, 8, 0, 4, 1, 0);
        values(trees, 7, 1, 0, 0, 0, NONE, 0, NONE, 1, 0, 20);
        trees.tick(1);
        values(trees, 31, 0, 0, 0, 0, 0, 0, 0, 0, 0, 0);
        values(trees, 7, 1, 0, 0, 0, NONE, 0, NONE, 1, 0, 21);
        values(trees, 0, 1, 0, 0, 0, NONE, 0, NONE, 5, 1, 20);
        StripeTrees last = new StripeTrees();
        last.setSource(1);
        last.join(0, 0, 0);
        last.join(9, 2, 3);
        // 9 took the place of 0 in stripe 1, the first in which it ranks before 0.
        values(last, 9, 1, 2, 3, 0, NONE, 1, 1, 0, 0, 0);
        for (int stripe = 0; stripe < 4; stripe++) {
            Check.due("the stripe of its children", Scenes.four().member(stripe, 6), stripe);
        }
    }

    private static void counts(StripeTrees trees, int... counts) {
        for (int what = 0; what < 8; what++) {
            Check.due("count(" + what + ")", trees.count(what), counts[what]);
        }
    }

    /** "(2 to 4 are not changed when members leave)" */
    private static void countsOfAll() {
        StripeTrees trees = new StripeTrees();
        counts(trees, 0, 0, 0, 0, 0, 0, 0, 0);
        trees.setSource(1);
        trees.join(0, 0, 0);
        counts(trees, 1, 0, 0, 0, 0, 0, 0, 0);
        trees.join(1, 0, 0);
        trees.tick(1);
        counts(trees, 2, 1, 4, 1, 1, 0, 0, 0);
        trees.leave(0);
        counts(trees, 1, 1, 4, 1, 1, 0, 0, 0);
        trees.leave(1);
        counts(trees, 0, 1, 4, 1, 1, 0, 0, 0);
        trees.tick(200);
        counts(trees, 0, 201, 4, 1, 1, 0, 0, 0);
        trees.join(0, 0, 3);
        trees.join(9, 1, 0);
        // 9 took the place of 0 in stripe 0.
        counts(trees, 2, 201, 4, 1, 1, 0, 1, 0);
        trees.setDelay(1);
        trees.fail(9);
        trees.tick(1);
        counts(trees, 1, 202, 8, 2, 1, 1, 1, 0);
        trees.undo();
        counts(trees, 2, 201, 4, 1, 1, 0, 1, 0);
    }
}
