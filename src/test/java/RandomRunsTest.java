import java.util.function.IntSupplier;

/** Long runs of calls, wrong ones among them, each answer and the digest after it compared with Model's. */
public final class RandomRunsTest {

    private static final int RUNS = 150;
    private static final int STEPS = 235;
    private static final int OUTSIDE = Integer.MIN_VALUE + 1;
    private static final int ILLEGAL = Integer.MIN_VALUE + 2;
    private static final int WRONG_STATE = Integer.MIN_VALUE + 3;
    private static final int OTHER = Integer.MIN_VALUE + 4;

    private long seed;
    private final StripeTrees trees = new StripeTrees();
    private final Model model = new Model();
    private String call = "";

    private RandomRunsTest(int run) {
        seed = 977L * run + 5;
    }

    public static void main(String[] args) {
        for (int run = 0; run < RUNS; run++) {
            new RandomRunsTest(run).run(run);
        }
        Check.end();
    }

    private void run(int run) {
        // Runs differ in how many members they hold and how wide these are.
        int members = 6 + run % 27;
        int widest = 1 + run % 8;
        // An object allows 512 calls, and each step makes one or two and that of digest().
        for (int i = 0; i < STEPS; i++) {
            step(members, widest, i);
            Check.due("run " + run + ", call " + i + ": digest after " + call, trees.digest(), model.digest());
        }
    }

    private int below(int bound) {
        seed = seed * 6364136223846793005L + 1442695040888963407L;
        return (int) ((seed >>> 33) % bound);
    }

    private void step(int members, int widest, int i) {
        int m = below(60) == 0 ? odd() : below(members);
        int s = below(60) == 0 ? odd() : below(4);
        int b = below(60) == 0 ? odd() : below(widest + 1);
        int kind = i < members && below(4) > 0 ? 0 : below(26);
        if (kind < 14) {
            change(kind, m, s, b);
        } else {
            look(kind, m, s, b);
        }
    }

    private int odd() {
        int[] values = {-1, 32, 4, 9, 100, 99, 101, Integer.MAX_VALUE, Integer.MIN_VALUE, 21, 8, 10, 6};
        return values[below(values.length)];
    }

    private void change(int kind, int m, int s, int b) {
        switch (kind) {
            case 0: case 1: case 2: case 3:
                same("join(" + m + ", " + b + ", " + s + ")", () -> trees.join(m, b, s),
                        first(member(m), range(b, 0, 8), range(s, 0, 3), model.has(m) ? WRONG_STATE : 0),
                        () -> model.join(m, b, s));
                break;
            case 4:
                same("leave(" + m + ")", () -> trees.leave(m), first(member(m), joined(m)), () -> model.leave(m));
                break;
            case 5: case 6:
                same("fail(" + m + ")", () -> trees.fail(m),
                        first(member(m), joined(m), model.has(m) && model.isFailed(m) ? WRONG_STATE : 0),
                        () -> model.fail(m));
                break;
            case 7:
                same("setBound(" + m + ", " + b + ")", () -> trees.setBound(m, b),
                        first(member(m), range(b, 0, 8), joined(m)), () -> model.setBound(m, b));
                break;
            case 8: {
                int f = below(4) > 0 ? 1 + below(3) : below(10);
                same("setSource(" + f + ")", () -> trees.setSource(f), range(f, 1, 8), () -> model.setSource(f));
                break;
            }
            case 9: {
                int d = below(4) > 0 ? 1 + below(6) : below(22);
                same("setDelay(" + d + ")", () -> trees.setDelay(d), range(d, 1, 20), () -> model.setDelay(d));
                break;
            }
            case 10:
                same("repair()", trees::repair, 0, model::repair);
                break;
            case 11:
                same("rejoin(" + m + ", " + s + ")", () -> trees.rejoin(m, s),
                        first(member(m), stripe(s), joined(m)), () -> model.rejoin(m, s));
                break;
            case 12: {
                int t = below(12) > 0 ? 1 + below(5) : below(203);
                same("tick(" + t + ")", () -> trees.tick(t), range(t, 1, 200), () -> model.tick(t));
                break;
            }
            default:
                same("undo()", trees::undo, model.undos.isEmpty() ? WRONG_STATE : 0, model::undo);
        }
    }

    private void look(int kind, int m, int s, int b) {
        int what = below(12) - 1;
        int other = below(60) == 0 ? odd() : below(32);
        int place = below(3) == 0 ? 100 : m;
        int placed = place == 100 ? 0 : member(place);
        int placeJoined = place == 100 ? 0 : joined(place);
        switch (kind) {
            case 14:
                same("member(" + m + ", " + what + ")", () -> trees.member(m, what),
                        first(member(m), range(what, 0, 9)), () -> model.member(m, what));
                break;
            case 15:
                same("parent(" + m + ", " + s + ")", () -> trees.parent(m, s),
                        first(member(m), stripe(s), joined(m)), () -> model.parent(m, s));
                break;
            case 16:
                same("depth(" + m + ", " + s + ")", () -> trees.depth(m, s),
                        first(member(m), stripe(s), joined(m)), () -> model.depth(m, s));
                break;
            case 17: case 18:
                same("child(" + place + ", " + s + ", " + what + ")", () -> trees.child(place, s, what),
                        first(placed, stripe(s), what < 0 ? ILLEGAL : 0, placeJoined),
                        () -> model.child(place, s, what));
                break;
            case 19:
                same("subtree(" + m + ", " + s + ")", () -> trees.subtree(m, s),
                        first(member(m), stripe(s), joined(m)), () -> model.subtree(m, s));
                break;
            case 20:
                same("hasRoom(" + place + ", " + s + ")", () -> trees.hasRoom(place, s) ? 1 : 0,
                        first(placed, stripe(s), placeJoined), () -> model.hasRoom(place, s) ? 1 : 0);
                break;
            case 21: case 22:
                same("ranksBefore(" + m + ", " + other + ", " + s + ")",
                        () -> trees.ranksBefore(m, other, s) ? 1 : 0,
                        first(member(m), member(other), stripe(s), m == other ? ILLEGAL : 0, joined(m), joined(other)),
                        () -> model.ranksBefore(m, other, s) ? 1 : 0);
                break;
            case 23:
                same("harm(" + m + ")", () -> trees.harm(m), first(member(m), joined(m)), () -> model.harm(m));
                same("pieces(" + m + ")", () -> trees.pieces(m), first(member(m), joined(m)), () -> model.pieces(m));
                break;
            case 24:
                same("stripe(" + s + ", " + what + ")", () -> trees.stripe(s, what),
                        first(stripe(s), range(what, 0, 5)), () -> model.stripe(s, what));
                break;
            default:
                same("count(" + what + ")", () -> trees.count(what), range(what, 0, 7), () -> model.count(what));
                same("time()", trees::time, 0, model::time);
        }
    }

    private static int first(int... refusals) {
        for (int refusal : refusals) {
            if (refusal != 0) {
                return refusal;
            }
        }
        return 0;
    }

    private static int member(int m) {
        return m < 0 || m > 31 ? OUTSIDE : 0;
    }

    private static int stripe(int s) {
        return s < 0 || s > 3 ? OUTSIDE : 0;
    }

    private static int range(int value, int least, int greatest) {
        return value < least || value > greatest ? ILLEGAL : 0;
    }

    private int joined(int m) {
        return model.has(m) ? 0 : WRONG_STATE;
    }

    private void same(String text, IntSupplier real, int refusal, IntSupplier due) {
        call = text;
        int want = refusal != 0 ? refusal : due.getAsInt();
        Check.due(text, answerOf(real), want);
    }

    private static int answerOf(IntSupplier real) {
        try {
            return real.getAsInt();
        } catch (RuntimeException e) {
            if (e.getClass() == IndexOutOfBoundsException.class) {
                return OUTSIDE;
            }
            if (e.getClass() == IllegalArgumentException.class) {
                return ILLEGAL;
            }
            return e.getClass() == IllegalStateException.class ? WRONG_STATE : OTHER;
        }
    }
}
