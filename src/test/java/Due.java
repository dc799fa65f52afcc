/** Compares answers with those that are due, prints each that differs, and ends the test. */
final class Due {
    interface Call {
        long answer();
    }

    interface Ask {
        boolean answer();
    }

    private int wrong = 0;
    private int compared = 0;

    void is(String what, long want, Call call) {
        compare(what, Long.toString(want), outcome(call));
    }

    void is(String what, boolean want, Ask ask) {
        is(what, want ? 1 : 0, () -> ask.answer() ? 1 : 0);
    }

    void isOutOfBounds(String what, Call call) {
        compare(what, "throws.IndexOutOfBoundsException", outcome(call));
    }

    void isWrongArgument(String what, Call call) {
        compare(what, "throws.IllegalArgumentException", outcome(call));
    }

    void isWrongState(String what, Call call) {
        compare(what, "throws.IllegalStateException", outcome(call));
    }

    void isNoElement(String what, Call call) {
        compare(what, "throws.NoSuchElementException", outcome(call));
    }

    /** The answers of call(0), call(1), .. as one text, so that an order is compared whole. */
    void are(String what, String want, int n, java.util.function.IntToLongFunction call) {
        StringBuilder got = new StringBuilder();
        for (int i = 0; i < n; i++) {
            int k = i;
            got.append(i == 0 ? "" : " ").append(outcome(() -> call.applyAsLong(k)));
        }
        compare(what, want, got.toString());
    }

    void compare(String what, String want, String got) {
        compared++;
        if (!want.equals(got)) {
            wrong++;
            System.out.println(what + " answered " + got + ", due is " + want);
        }
    }

    // the exact class, so that a machine's ArrayIndexOutOfBoundsException does not pass for the document's
    static String outcome(Call call) {
        try {
            return Long.toString(call.answer());
        } catch (RuntimeException e) {
            return "throws." + e.getClass().getSimpleName();
        }
    }

    void end() {
        if (compared == 0) {
            System.out.println("nothing was compared");
        }
        if (wrong > 0 || compared == 0) {
            System.exit(1);
        }
    }
}
