import java.util.function.Consumer;

/** Sentences of the document, section by section; each has a test of its own, and its own count. */
final class Sentences {
    private String section = "";
    private boolean failed = false;

    /** Where the sentences that follow stand. */
    void section(String name) {
        section = name;
    }

    void test(String words, Consumer<Due> made) {
        Due due = new Due(section + ": \"" + words + "\"");
        try {
            made.accept(due);
        } catch (RuntimeException | AssertionError thrown) {
            // One sentence that breaks off must not hide the others.
            due.isTrue("ran to its end, and not into " + thrown, false);
        }
        if (!due.holds()) {
            failed = true;
        }
    }

    void end() {
        if (failed) {
            System.exit(1);
        }
    }
}
