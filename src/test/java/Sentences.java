/** Runs a test for each sentence of the document that names a boundary case, and names the sentence if it fails. */
final class Sentences {
    private final Checks checks = new Checks();
    private String sentence = "";

    /** The words are those of the document; the case tells apart the tests of one sentence. 0 is for its terms. */
    void test(int promise, String words, String edge, Runnable test) {
        sentence = (promise == 0 ? "terms" : "promise " + promise) + ", '" + words + "', " + edge + ": ";
        try {
            test.run();
        } catch (RuntimeException thrown) {
            yes("no call throws, but there was " + thrown, false);
        }
    }

    void due(String what, int got, int want) {
        checks.due(sentence + what, got, want);
    }

    void yes(String what, boolean holds) {
        checks.yes(sentence + what, holds);
    }

    void end() {
        checks.end();
    }
}
