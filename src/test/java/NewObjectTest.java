/** Promise 1: a new object. */
public final class NewObjectTest {

    public static void main(String[] args) {
        StripeTrees trees = new StripeTrees();
        Check.due("time()", trees.time(), 0);
        for (int what = 0; what < 8; what++) {
            Check.due("count(" + what + ")", trees.count(what), 0);
        }
        for (int member = 0; member < 32; member++) {
            for (int what = 0; what < 10; what++) {
                Check.due("member(" + member + ", " + what + ")", trees.member(member, what), 0);
            }
        }
        for (int stripe = 0; stripe < 4; stripe++) {
            for (int what = 0; what < 6; what++) {
                Check.due("stripe(" + stripe + ", " + what + ")", trees.stripe(stripe, what), 0);
            }
            Check.due("hasRoom(SOURCE, " + stripe + ")", trees.hasRoom(100, stripe), true);
            Check.due("child(SOURCE, " + stripe + ", 0)", trees.child(100, stripe, 0), -1);
        }
        Check.wrongState(trees, "undo()", trees::undo);
        Check.due("setSource(1)", trees.setSource(1), 2);
        Check.due("setDelay(1)", trees.setDelay(1), 3);
        Check.due("another object's time()", new StripeTrees().count(0), 0);
        twoObjectsAreApart();
        Check.end();
    }

    private static void twoObjectsAreApart() {
        StripeTrees one = new StripeTrees();
        StripeTrees other = new StripeTrees();
        one.join(0, 1, 0);
        Check.due("the other object's member(0, 0)", other.member(0, 0), 0);
        Check.wrongState(other, "the other object's undo()", other::undo);
    }
}
