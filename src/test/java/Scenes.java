/** Small groups whose trees are drawn here once, for several tests. */
final class Scenes {

    private Scenes() {
    }

    /**
     * Four members with bound 4, each of which prefers the stripe of its number; after the repair
     * all are connected:
     * stripe 0: source {0 {2, 3}, 1}
     * stripe 1: source {0, 1 {2, 3}}
     * stripe 2: source {0, 2 {1, 3}}, where 2 took the place of 1
     * stripe 3: source {0, 3 {1, 2}}, where 3 took the place of 1, and 2 waited for the repair
     */
    static StripeTrees four() {
        StripeTrees trees = new StripeTrees();
        for (int member = 0; member < 4; member++) {
            trees.join(member, 4, member);
        }
        trees.repair();
        return trees;
    }

    /**
     * F is 1, member 0 with bound 2 carries 1 and 2 (bound 0) in stripe 0; in the other stripes
     * these two are orphans.
     */
    static StripeTrees narrow() {
        StripeTrees trees = new StripeTrees();
        trees.setSource(1);
        trees.join(0, 2, 0);
        trees.join(1, 0, 0);
        trees.join(2, 0, 0);
        return trees;
    }

    /**
     * F is 1, and in stripe 0 member 0 is alone at the source with bound 0, while 1 is an orphan
     * that has 2 below it: 1 does not rank before 0 there, and nobody has room.
     */
    static StripeTrees cutOff() {
        StripeTrees trees = new StripeTrees();
        trees.setSource(1);
        trees.join(0, 1, 0);
        trees.join(1, 0, 2);
        trees.join(2, 0, 2);
        trees.setBound(1, 1);
        trees.setBound(0, 0);
        return trees;
    }

    /**
     * F is 1, and in stripe 0 member 1 (bound 1), with 2 below it, took the place of 0 (bound 0),
     * for which no place was left: source {1 {2}}, and 0 is an orphan.
     */
    static StripeTrees pushedOut() {
        StripeTrees trees = new StripeTrees();
        trees.setSource(1);
        trees.join(0, 1, 1);
        trees.join(1, 0, 2);
        trees.join(2, 0, 2);
        trees.setBound(1, 1);
        trees.setBound(0, 0);
        return trees;
    }

    /**
     * F is 3 + others, and 20, 21, 22 carry in the stripes 1, 2, 3 whoever joins later, so that in
     * stripe 0 all the other members can still be inner.
     */
    static StripeTrees carried(int others) {
        StripeTrees trees = new StripeTrees();
        trees.setSource(3 + others);
        trees.join(20, 8, 1);
        trees.join(21, 8, 2);
        trees.join(22, 8, 3);
        return trees;
    }

    /** All 32 members in a chain of stripe 0, member 0 at the source. */
    static StripeTrees chain() {
        StripeTrees trees = new StripeTrees();
        trees.setSource(1);
        for (int member = 0; member < 32; member++) {
            trees.join(member, 1, 0);
        }
        return trees;
    }
}
