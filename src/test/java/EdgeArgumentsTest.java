/**
 * The arguments of promises 2 to 22: the least and the greatest of each, the ones beside them, and every
 * mixture of wrong ones, of which the exception that the document lists first is due.
 */
public final class EdgeArgumentsTest {

    private interface Call {
        long on(StripeTrees trees);
    }

    private static final int MIN = Integer.MIN_VALUE;
    private static final int MAX = Integer.MAX_VALUE;
    private static final int SOURCE = 100;

    private static final Class<?> OUTSIDE = IndexOutOfBoundsException.class;
    private static final Class<?> ILLEGAL = IllegalArgumentException.class;
    private static final Class<?> STATE = IllegalStateException.class;

    /** 0 and 31 have joined in {@link #ends}; 1 and 30 have not, and the others are no members. */
    private static final int[] PLACES = {0, 31, 1, 30, -1, 32, MIN, MAX, 99, SOURCE, 101};
    private static final int[] STRIPES = {0, 3, -1, 4, MIN, MAX};
    private static final int[] BOUNDS = {0, 1, 7, 8, -1, 9, MIN, MAX};

    public static void main(String[] args) {
        join();
        oneMember();
        setBound();
        numbers();
        memberAndStripe();
        member();
        child();
        hasRoom();
        ranksBefore();
        stripeAndCount();
        Check.end();
    }

    /** Members 0 and 31, with bound 2, are the two children of the source in each stripe. */
    private static StripeTrees ends() {
        StripeTrees trees = new StripeTrees();
        trees.join(0, 2, 0);
        trees.join(31, 2, 3);
        return trees;
    }

    private static boolean isMember(int member) {
        return 0 <= member && member <= 31;
    }

    private static boolean isStripe(int stripe) {
        return 0 <= stripe && stripe <= 3;
    }

    private static boolean isBound(int bound) {
        return 0 <= bound && bound <= 8;
    }

    private static boolean hasJoined(int member) {
        return member == 0 || member == 31;
    }

    private static Class<?> first(boolean outside, boolean illegal, boolean state) {
        return outside ? OUTSIDE : illegal ? ILLEGAL : state ? STATE : null;
    }

    /** Every call is made on an object of its own, so none depends on the one before. */
    private static void due(String what, Class<?> refusal, long answer, Call call) {
        StripeTrees trees = ends();
        if (refusal != null) {
            Check.refused(trees, what, refusal, () -> call.on(trees));
        } else {
            Check.due(what, call.on(trees), answer);
        }
    }

    // ---- promise 2

    private static void join() {
        for (int member : PLACES) {
            for (int bound : BOUNDS) {
                for (int preferred : STRIPES) {
                    Class<?> refusal = first(!isMember(member), !isBound(bound) || !isStripe(preferred),
                            hasJoined(member));
                    String what = "join(" + member + ", " + bound + ", " + preferred + ")";
                    if (refusal != null) {
                        due(what, refusal, 0, trees -> trees.join(member, bound, preferred));
                    }
                }
            }
        }
        for (int member : new int[] {0, 1, 30, 31}) {
            for (int bound : new int[] {0, 1, 7, 8}) {
                for (int preferred = 0; preferred < 4; preferred++) {
                    accepted(member, bound, preferred);
                }
            }
        }
    }

    private static void accepted(int member, int bound, int preferred) {
        StripeTrees trees = new StripeTrees();
        String what = "join(" + member + ", " + bound + ", " + preferred + ")";
        Check.due(what, trees.join(member, bound, preferred), 4);
        Check.due("bound after " + what, trees.member(member, 1), bound);
        Check.due("preferred stripe after " + what, trees.member(member, 2), preferred);
    }

    // ---- promises 3, 4, 19 and 20

    private static void oneMember() {
        for (int member : PLACES) {
            Class<?> refusal = first(!isMember(member), false, !hasJoined(member));
            due("leave(" + member + ")", refusal, 0, trees -> trees.leave(member));
            due("fail(" + member + ")", refusal, 3, trees -> trees.fail(member));
            due("harm(" + member + ")", refusal, 0, trees -> trees.harm(member));
            due("pieces(" + member + ")", refusal, 4, trees -> trees.pieces(member));
        }
        for (int member : new int[] {0, 31}) {
            StripeTrees trees = ends();
            trees.fail(member);
            Check.wrongState(trees, "fail(" + member + ") a second time", () -> trees.fail(member));
            Check.due("a failed member may leave", trees.leave(member), 0);
            Check.wrongState(trees, "leave(" + member + ") a second time", () -> trees.leave(member));
            Check.wrongState(trees, "fail(" + member + ") after it left", () -> trees.fail(member));
        }
    }

    // ---- promise 5

    private static void setBound() {
        for (int member : PLACES) {
            for (int bound : BOUNDS) {
                due("setBound(" + member + ", " + bound + ")",
                        first(!isMember(member), !isBound(bound), !hasJoined(member)), 2,
                        trees -> trees.setBound(member, bound));
                if (hasJoined(member) && isBound(bound)) {
                    due("the bound set", null, bound, trees -> {
                        trees.setBound(member, bound);
                        return trees.member(member, 1);
                    });
                }
            }
        }
    }

    // ---- promises 6, 7 and 10

    private static void numbers() {
        for (int value : new int[] {MIN, -1, 0, 9, 10, MAX}) {
            due("setSource(" + value + ")", ILLEGAL, 0, trees -> trees.setSource(value));
        }
        for (int value = 1; value <= 8; value++) {
            int children = value;
            due("setSource(" + children + ")", null, 2, trees -> trees.setSource(children));
            due("setSource after setSource(" + children + ")", null, children, trees -> {
                trees.setSource(children);
                return trees.setSource(4);
            });
        }
        for (int value : new int[] {MIN, -1, 0, 21, 22, MAX}) {
            due("setDelay(" + value + ")", ILLEGAL, 0, trees -> trees.setDelay(value));
        }
        for (int value = 1; value <= 20; value++) {
            int ticks = value;
            due("setDelay(" + ticks + ")", null, 3, trees -> trees.setDelay(ticks));
            due("setDelay after setDelay(" + ticks + ")", null, ticks, trees -> {
                trees.setDelay(ticks);
                return trees.setDelay(4);
            });
        }
        for (int value : new int[] {MIN, -200, -1, 0, 201, 202, MAX}) {
            due("tick(" + value + ")", ILLEGAL, 0, trees -> trees.tick(value));
        }
        for (int ticks : new int[] {1, 2, 199, 200}) {
            due("tick(" + ticks + ")", null, 0, trees -> trees.tick(ticks));
            due("time() after tick(" + ticks + ")", null, ticks, trees -> {
                trees.tick(ticks);
                return trees.time();
            });
        }
    }

    // ---- promises 9, 13, 14 and 16

    private static void memberAndStripe() {
        for (int member : PLACES) {
            for (int stripe : STRIPES) {
                Class<?> refusal = first(!isMember(member) || !isStripe(stripe), false, !hasJoined(member));
                String arguments = "(" + member + ", " + stripe + ")";
                due("rejoin" + arguments, refusal, SOURCE, trees -> trees.rejoin(member, stripe));
                due("parent" + arguments, refusal, SOURCE, trees -> trees.parent(member, stripe));
                due("depth" + arguments, refusal, 1, trees -> trees.depth(member, stripe));
                due("subtree" + arguments, refusal, 1, trees -> trees.subtree(member, stripe));
            }
        }
    }

    // ---- promise 12

    private static void member() {
        int[] first = {1, 2, 0, 0, -1, 0, -1, 0, 0, 0};
        int[] last = {1, 2, 3, 0, -1, 0, -1, 0, 0, 0};
        for (int member : PLACES) {
            for (int what : new int[] {0, 1, 2, 3, 4, 5, 6, 7, 8, 9, -1, 10, MIN, MAX}) {
                boolean known = 0 <= what && what <= 9;
                long answer = !known || !hasJoined(member) ? 0 : member == 0 ? first[what] : last[what];
                due("member(" + member + ", " + what + ")", first(!isMember(member), !known, false), answer,
                        trees -> trees.member(member, what));
            }
        }
    }

    // ---- promise 15

    private static void child() {
        int[] ofSource = {0, 31};
        for (int place : PLACES) {
            for (int stripe : STRIPES) {
                for (int index : new int[] {0, 1, 2, 31, 32, MAX, -1, MIN}) {
                    Class<?> refusal = first(!isMember(place) && place != SOURCE || !isStripe(stripe),
                            index < 0, place != SOURCE && !hasJoined(place));
                    long answer = place == SOURCE && (index == 0 || index == 1) ? ofSource[index] : -1;
                    due("child(" + place + ", " + stripe + ", " + index + ")", refusal, answer,
                            trees -> trees.child(place, stripe, index));
                }
            }
        }
    }

    // ---- promise 17

    private static void hasRoom() {
        for (int place : PLACES) {
            for (int stripe : STRIPES) {
                Class<?> refusal = first(!isMember(place) && place != SOURCE || !isStripe(stripe), false,
                        place != SOURCE && !hasJoined(place));
                due("hasRoom(" + place + ", " + stripe + ")", refusal, place == SOURCE ? 0 : 1,
                        trees -> trees.hasRoom(place, stripe) ? 1 : 0);
            }
        }
    }

    // ---- promise 18

    private static void ranksBefore() {
        for (int first : PLACES) {
            for (int second : PLACES) {
                for (int stripe : STRIPES) {
                    Class<?> refusal = first(!isMember(first) || !isMember(second) || !isStripe(stripe),
                            first == second, !hasJoined(first) || !hasJoined(second));
                    // 0 has the lower number, but 31 alone prefers stripe 3.
                    boolean before = stripe == 3 ? first == 31 : first == 0;
                    due("ranksBefore(" + first + ", " + second + ", " + stripe + ")", refusal, before ? 1 : 0,
                            trees -> trees.ranksBefore(first, second, stripe) ? 1 : 0);
                }
            }
        }
    }

    // ---- promises 21 and 22

    private static void stripeAndCount() {
        int[] ofStripe = {2, 0, 1, 2, 2, 0};
        for (int stripe : STRIPES) {
            for (int what : new int[] {0, 1, 2, 3, 4, 5, -1, 6, MIN, MAX}) {
                boolean known = 0 <= what && what <= 5;
                due("stripe(" + stripe + ", " + what + ")", first(!isStripe(stripe), !known, false),
                        known ? ofStripe[what] : 0, trees -> trees.stripe(stripe, what));
            }
        }
        int[] counts = {2, 0, 0, 0, 0, 0, 0, 0};
        for (int what : new int[] {0, 1, 2, 3, 4, 5, 6, 7, -1, 8, MIN, MAX}) {
            boolean known = 0 <= what && what <= 7;
            due("count(" + what + ")", first(false, !known, false), known ? counts[what] : 0,
                    trees -> trees.count(what));
        }
    }
}
