/** A desk with a client who writes whole texts; it counts the calls, as the document bounds them. */
final class Talk {
    private static final int MOST_CALLS = 512;
    private static final int WORDS_OF_WIDEST_ORDER = 47;
    private static final int WORDS_OF_LEAST_ORDER = 8;

    final CertificateDesk desk;
    private int calls = 0;

    Talk(int life) {
        desk = new CertificateDesk(life);
    }

    CertificateDesk ask() {
        calls++;
        if (calls > MOST_CALLS) {
            throw new IllegalStateException("the test makes more calls than an object is used for");
        }
        return desk;
    }

    void write(String text) {
        for (int i = 0; i < text.length(); i++) {
            if (!ask().write(text.charAt(i))) {
                throw new IllegalStateException("not written: " + text);
            }
        }
    }

    int send(int key, int who, String text) {
        write(text);
        int nonce = ask().nonce();
        return ask().request(key, nonce, who, 0);
    }

    int open(int key) {
        return send(key, -1, "{\"op\":\"new\"}");
    }

    int order(int key, int who, String... names) {
        return send(key, who, "{\"op\":\"order\",\"names\":[\"" + String.join("\",\"", names) + "\"]}");
    }

    int attempt(int key, int who, int authorization, int way) {
        return send(key, who, "{\"op\":\"try\",\"auth\":" + authorization + ",\"way\":" + way + "}");
    }

    int finish(int key, int who, int order, int certified, String... names) {
        return send(key, who, "{\"op\":\"finish\",\"order\":" + order + ",\"csr\":{\"key\":" + certified
            + ",\"names\":[\"" + String.join("\",\"", names) + "\"]}}");
    }

    int revoke(int key, int who, int serial, int why) {
        return send(key, who, "{\"op\":\"revoke\",\"serial\":" + serial + ",\"why\":" + why + "}");
    }

    int close(int key, int who) {
        return send(key, who, "{\"op\":\"close\"}");
    }

    void ticks(int count) {
        for (int i = 0; i < count; i++) {
            ask().tick();
        }
    }

    /** The proof is published and tried for; the next tick finds it. */
    void publishAndTry(int key, int who, int authorization) {
        ask().publish(0, authorization, key);
        attempt(key, who, authorization, 0);
    }

    /** Account 0 of key 0 orders names of the letters x, y and z until so many words are used. */
    Talk fill(int words) {
        int left = words - ask().words();
        while (left >= WORDS_OF_LEAST_ORDER) {
            boolean rest = left <= WORDS_OF_WIDEST_ORDER;
            boolean tooLittleBehind = left - WORDS_OF_WIDEST_ORDER < WORDS_OF_LEAST_ORDER;
            int take = rest ? left : tooLittleBehind ? left - WORDS_OF_LEAST_ORDER : WORDS_OF_WIDEST_ORDER;
            orderOfWords(take - 5);
            left -= take;
        }
        if (ask().words() != words) {
            throw new IllegalStateException("the store was not filled to " + words);
        }
        return this;
    }

    private void orderOfWords(int wordsOfNames) {
        if (wordsOfNames <= 14) {
            order(0, 0, "x".repeat(wordsOfNames - 2));
        } else if (wordsOfNames <= 28) {
            int first = wordsOfNames / 2;
            order(0, 0, "x".repeat(first - 2), "y".repeat(wordsOfNames - first - 2));
        } else {
            order(0, 0, "x".repeat((wordsOfNames + 2) / 3 - 2), "y".repeat((wordsOfNames + 1) / 3 - 2),
                "z".repeat(wordsOfNames / 3 - 2));
        }
    }

    /** Account 0 with the key, and order 0 whose authorizations are undecided. */
    static Talk ordered(int life, int key, String... names) {
        Talk talk = new Talk(life);
        talk.open(key);
        talk.order(key, 0, names);
        return talk;
    }

    /** As ordered, and the authorizations are all under trial, to be proved by the next tick. */
    static Talk tried(int life, int key, String... names) {
        Talk talk = ordered(life, key, names);
        for (int i = 0; i < names.length; i++) {
            talk.publishAndTry(key, 0, i);
        }
        return talk;
    }

    /** As tried, and the authorizations are all proved at tick 1. */
    static Talk proved(int life, int key, String... names) {
        Talk talk = tried(life, key, names);
        talk.ask().tick();
        return talk;
    }

    /** As proved, and order 0 has certificate 0, made at tick 1 for key 3. */
    static Talk certified(int life, int key, String... names) {
        Talk talk = proved(life, key, names);
        talk.finish(key, 0, 0, 3, names);
        return talk;
    }
}
