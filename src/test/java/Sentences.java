/** What the tests share that go through the document sentence by sentence. */
abstract class Sentences {
    static final int LEAST = Integer.MIN_VALUE;
    static final int MOST = Integer.MAX_VALUE;
    static final String NEW = "{\"op\":\"new\"}";
    static final String CLOSE = "{\"op\":\"close\"}";

    private final Checks checks = new Checks(getClass().getSimpleName());

    /** Each test of one sentence begins with it, so that a wrong answer is told with what it breaks. */
    final void sentence(String words) {
        checks.sentence(words);
    }

    final void due(String what, long got, long want) {
        checks.due(what, got, want);
    }

    final void due(String what, boolean got, boolean want) {
        checks.due(what, got, want);
    }

    final void end() {
        checks.end();
    }

    static int signatureOf(int key, String text, int nonce, int who) {
        return Reference.sign(Reference.CLIENT_KEYS[key], Reference.requestDigest(text, nonce, who));
    }
}
