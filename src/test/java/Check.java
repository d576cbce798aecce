/** Counts and prints the answers that are not due; a test ends with {@link #end}. */
final class Check {

    private static int wrong = 0;
    private static int checked = 0;

    private Check() {
    }

    static void due(String what, long got, long want) {
        checked++;
        if (got != want) {
            wrong++;
            System.out.println(what + " answered " + got + ", due is " + want);
        }
    }

    static void due(String what, boolean got, boolean want) {
        due(what, got ? 1 : 0, want ? 1 : 0);
    }

    /** The call has to throw just this kind, and to leave the object as it was. */
    static void refused(StripeTrees trees, String what, Class<?> kind, Runnable call) {
        long before = trees.digest();
        Class<?> thrown = null;
        try {
            call.run();
        } catch (RuntimeException e) {
            thrown = e.getClass();
        }
        checked++;
        if (thrown != kind) {
            wrong++;
            System.out.println(what + " threw " + thrown + ", due is " + kind);
        }
        due(what + ": digest afterwards", trees.digest(), before);
    }

    static void outside(StripeTrees trees, String what, Runnable call) {
        refused(trees, what, IndexOutOfBoundsException.class, call);
    }

    static void illegal(StripeTrees trees, String what, Runnable call) {
        refused(trees, what, IllegalArgumentException.class, call);
    }

    static void wrongState(StripeTrees trees, String what, Runnable call) {
        refused(trees, what, IllegalStateException.class, call);
    }

    static void end() {
        System.out.println(checked + " answers checked, " + wrong + " not as due");
        if (wrong != 0) {
            System.exit(1);
        }
    }
}
