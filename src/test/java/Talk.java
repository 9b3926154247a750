/** A desk with a client who writes whole texts; it counts the calls, as the document bounds them. */
final class Talk {
    private static final int MOST_CALLS = 512;

    final CertificateDesk desk;
    private int calls = 0;

    Talk(int life) {
        desk = new CertificateDesk(life);
    }

    CertificateDesk ask() {
        calls++;
        if (calls > MOST_CALLS) {
            throw new IllegalStateException("the test makes more calls than an object is used for");
        }
        return desk;
    }

    void write(String text) {
        for (int i = 0; i < text.length(); i++) {
            if (!ask().write(text.charAt(i))) {
                throw new IllegalStateException("not written: " + text);
            }
        }
    }

    int send(int key, int who, String text) {
        write(text);
        int nonce = ask().nonce();
        return ask().request(key, nonce, who, 0);
    }

    int open(int key) {
        return send(key, -1, "{\"op\":\"new\"}");
    }

    int order(int key, int who, String... names) {
        return send(key, who, "{\"op\":\"order\",\"names\":[\"" + String.join("\",\"", names) + "\"]}");
    }

    int attempt(int key, int who, int authorization, int way) {
        return send(key, who, "{\"op\":\"try\",\"auth\":" + authorization + ",\"way\":" + way + "}");
    }

    int finish(int key, int who, int order, int certified, String... names) {
        return send(key, who, "{\"op\":\"finish\",\"order\":" + order + ",\"csr\":{\"key\":" + certified
            + ",\"names\":[\"" + String.join("\",\"", names) + "\"]}}");
    }

    int revoke(int key, int who, int serial, int why) {
        return send(key, who, "{\"op\":\"revoke\",\"serial\":" + serial + ",\"why\":" + why + "}");
    }

    int close(int key, int who) {
        return send(key, who, "{\"op\":\"close\"}");
    }

    void ticks(int count) {
        for (int i = 0; i < count; i++) {
            ask().tick();
        }
    }

    /** Account 0 with the key, and order 0 whose authorizations are all proved at tick 1. */
    static Talk proved(int life, int key, String... names) {
        Talk talk = new Talk(life);
        talk.open(key);
        talk.order(key, 0, names);
        for (int i = 0; i < names.length; i++) {
            talk.ask().publish(0, i, key);
            talk.attempt(key, 0, i, 0);
        }
        talk.ask().tick();
        return talk;
    }
}
