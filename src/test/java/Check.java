/** Compares answers with those that are due, tells the wrong ones, and ends the test. */
final class Check {
    private final String test;
    private int right = 0;
    private int wrong = 0;

    Check(String test) {
        this.test = test;
    }

    void due(String call, long got, long want) {
        if (got == want) {
            right++;
            return;
        }
        wrong++;
        if (wrong <= 40) {
            System.out.println(test + ": " + call + " answered " + got + ", due is " + want);
        }
    }

    void holds(String what, boolean so) {
        due(what, so ? 1 : 0, 1);
    }

    /** A call that is refused with this answer, counts as this reason, and changes nothing else. */
    void refused(String call, SnakeLadders x, java.util.function.LongSupplier made, long want, int reason) {
        int[] before = {x.status(0), x.status(1), x.status(2)};
        long state = x.digest();
        due(call, made.getAsLong(), want);
        for (int what = 0; what < 3; what++) {
            due(call + ", then status(" + what + ")", x.status(what), before[what] + (what == reason ? 1 : 0));
        }
        due(call + ", then digest()", x.digest(), state);
    }

    void bad(String call, SnakeLadders x, java.util.function.LongSupplier made) {
        refused(call, x, made, SnakeLadders.BAD, 0);
    }

    void badByTen(String call, SnakeLadders x, java.util.function.LongSupplier made) {
        refused(call, x, made, -10, 0);
    }

    void no(String call, SnakeLadders x, java.util.function.LongSupplier made) {
        refused(call, x, made, SnakeLadders.NO, 1);
    }

    void full(String call, SnakeLadders x, java.util.function.LongSupplier made) {
        refused(call, x, made, SnakeLadders.FULL, 2);
    }

    /** An answer that is no refusal, and a call that changes nothing. */
    void asked(String call, SnakeLadders x, java.util.function.LongSupplier made, long want) {
        refused(call, x, made, want, -1);
    }

    void fraction(String call, SnakeLadders x, int answer, long above, long below) {
        due(call, answer, 1);
        due(call + ", then part(0)", x.part(0), above);
        due(call + ", then part(1)", x.part(1), below);
    }

    boolean looked() {
        return right + wrong > 0;
    }

    /** The answers of another test count as this one's. */
    void take(Check other) {
        right += other.right;
        wrong += other.wrong;
    }

    void end() {
        System.out.println(test + ": " + right + " answers right, " + wrong + " wrong");
        System.exit(wrong == 0 ? 0 : 1);
    }
}
