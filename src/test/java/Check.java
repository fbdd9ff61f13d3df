/** Counts answers that are as due, and prints those that are not. */
final class Check {
    /** A call that answers. */
    interface Call {
        Object answer();
    }

    private int passed;
    private int failed;

    void is(String what, Object got, Object due) {
        if (due.equals(got)) {
            passed++;
        } else {
            failed++;
            System.out.println(what + " answered " + got + ", due is " + due);
        }
    }

    void isThrown(String what, Class<?> due, Call call) {
        is(what, thrownBy(call), due.getSimpleName());
    }

    void isOutOfBounds(String what, Call call) {
        isThrown(what, IndexOutOfBoundsException.class, call);
    }

    void isIllegalState(String what, Call call) {
        isThrown(what, IllegalStateException.class, call);
    }

    void isIllegalArgument(String what, Call call) {
        isThrown(what, IllegalArgumentException.class, call);
    }

    void isUnsupported(String what, Call call) {
        isThrown(what, UnsupportedOperationException.class, call);
    }

    void isMissing(String what, Call call) {
        isThrown(what, java.util.NoSuchElementException.class, call);
    }

    /** The answer as a text, or the name of the exception. */
    static String answerOf(Call call) {
        try {
            return String.valueOf(call.answer());
        } catch (RuntimeException thrown) {
            return "throws " + thrown.getClass().getSimpleName();
        }
    }

    private static String thrownBy(Call call) {
        try {
            return "no exception, but " + call.answer();
        } catch (RuntimeException thrown) {
            return thrown.getClass().getSimpleName();
        }
    }

    int passed() {
        return passed;
    }

    int failed() {
        return failed;
    }
}
