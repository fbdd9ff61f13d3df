import java.nio.file.Path;
import java.util.function.Function;
import java.util.function.Supplier;

/** Counts answers that are as due, and prints those that are not, with the words of the document on which they rest. */
final class Check {
    /** A call that answers. */
    interface Call {
        Object answer();
    }

    private final Quotes quotes = new Quotes();
    private String words = "";
    private int passed;
    private int failed;

    /** The next answers rest on these words in a part of the document: a paragraph of "Terms", or a promise by its number. */
    void by(String part, String quoted) {
        words = part + ": " + quoted;
        quotes.add(part, quoted);
    }

    void is(String what, Object got, Object due) {
        if (due.equals(got)) {
            passed++;
        } else {
            failed++;
            System.out.println(what + " answered " + got + ", due is " + due + (words.isEmpty() ? "" : " [" + words + "]"));
        }
    }

    /** The call throws this, and all later calls are answered as they would be without it. */
    void refused(String what, Class<?> due, Supplier<Raidline> start, Function<Raidline, Object> call) {
        for (Trail.Kind kind : Trail.Kind.values()) {
            Raidline game = start.get();
            is(what, thrownBy(() -> call.apply(game)), due.getSimpleName());
            is(what + " changes", Trail.difference(kind, game, start.get()), "nothing");
        }
    }

    void outOfBounds(String what, Supplier<Raidline> start, Function<Raidline, Object> call) {
        refused(what, IndexOutOfBoundsException.class, start, call);
    }

    void illegalState(String what, Supplier<Raidline> start, Function<Raidline, Object> call) {
        refused(what, IllegalStateException.class, start, call);
    }

    void illegalArgument(String what, Supplier<Raidline> start, Function<Raidline, Object> call) {
        refused(what, IllegalArgumentException.class, start, call);
    }

    void unsupported(String what, Supplier<Raidline> start, Function<Raidline, Object> call) {
        refused(what, UnsupportedOperationException.class, start, call);
    }

    void missing(String what, Supplier<Raidline> start, Function<Raidline, Object> call) {
        refused(what, java.util.NoSuchElementException.class, start, call);
    }

    void isIllegalState(String what, Call call) {
        is(what, thrownBy(call), "IllegalStateException");
    }

    void isUnsupported(String what, Call call) {
        is(what, thrownBy(call), "UnsupportedOperationException");
    }

    /** The answer as a text, or the name of the exception. */
    static String answerOf(Call call) {
        try {
            return String.valueOf(call.answer());
        } catch (RuntimeException thrown) {
            return "throws " + thrown.getClass().getSimpleName();
        }
    }

    private static String thrownBy(Call call) {
        try {
            return "no exception, but " + call.answer();
        } catch (RuntimeException thrown) {
            return thrown.getClass().getSimpleName();
        }
    }

    /** Whether the tests rest on all words of the document, and on no others. */
    void isWholeDocument(Path document) throws java.io.IOException {
        words = "";
        for (String line : quotes.faults(Document.read(document))) {
            is("the document", line, "quoted by a test");
        }
    }

    int passed() {
        return passed;
    }

    int failed() {
        return failed;
    }
}
