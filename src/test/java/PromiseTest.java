import java.util.List;

/** For each promise: ordinary inputs, the edges that the document names, and wrong inputs. */
public final class PromiseTest {
    private static final Checks CHECKS = new Checks("PromiseTest");
    private static final int LEAST = Integer.MIN_VALUE;
    private static final int MOST = Integer.MAX_VALUE;
    private static final String NEW = "{\"op\":\"new\"}";
    private static final String ELEVEN = "abcdefghijk";

    private PromiseTest() {
    }

    public static void main(String[] arguments) {
        newObject();
        write();
        nonce();
        requestsThatAreNotRead();
        requestsForAccounts();
        requestsForOrders();
        tablesWithoutRoom();
        trials();
        finishing();
        revoking();
        closing();
        storeWithoutRoom();
        signature();
        publish();
        withdraw();
        tick();
        tickWithoutRoom();
        cut();
        cutOfEachRecord();
        crash();
        words();
        account();
        order();
        authorization();
        state();
        token();
        serial();
        octet();
        standing();
        listing();
        CHECKS.end();
    }

    private static void due(String what, long got, long want) {
        CHECKS.due(what, got, want);
    }

    private static void due(String what, boolean got, boolean want) {
        CHECKS.due(what, got, want);
    }

    // Promise 1
    private static void newObject() {
        int[][] lives = {{0, 2}, {1, 3}, {3, 5}, {7, 9}, {8, 2}, {15, 9}, {-1, 9}, {-8, 2}, {LEAST, 2}, {MOST, 9}};
        for (int[] life : lives) {
            Talk talk = new Talk(life[0]);
            due("words of a new object", talk.ask().words(), 0);
            due("account 0 of a new object", talk.ask().account(0), -1);
            due("order 0 of a new object", talk.ask().order(0), -1);
            due("state 0 of a new object", talk.ask().state(0), -1);
            due("certificate 0 of a new object", talk.ask().standing(0), -1);
            due("signature of a new object", talk.ask().signature(), 0);
            due("a nonce that was not given out", talk.ask().request(0, 0, -1, 0), -2);
            due("the first record is not cut", talk.open(0), 0);
            talk.order(0, 0, "a");
            talk.ticks(life[1] - 1);
            due("life " + life[0] + ", the tick before the end", talk.ask().state(0), 0);
            talk.ticks(1);
            due("life " + life[0] + ", the end", talk.ask().state(0), 4);
        }
    }

    // Promise 2
    private static void write() {
        int[] wrong = {0, 9, 10, 31, 127, 128, 255, 256, 32 + 256, 65535};
        Talk talk = new Talk(0);
        for (int code : wrong) {
            due("write " + code, talk.ask().write((char) code), false);
        }
        due("write 32", talk.ask().write(' '), true);
        due("write 126", talk.ask().write('~'), true);
        due("write 92", talk.ask().write('\\'), true);
        talk.ask().request(0, 5, -1, 0);
        due("what was written", talk.ask().signature(), signatureOf(0, " ~\\", 5, -1));
        for (int i = 0; i < 96; i++) {
            due("write, with " + i + " there", talk.ask().write('x'), true);
        }
        due("write, with 96 there", talk.ask().write('x'), false);
        due("write, with 96 there", talk.ask().write('"'), false);
        talk.ask().crash();
        due("write, after a crash", talk.ask().write('x'), false);
        talk.ask().request(1, 5, -1, 0);
        due("what was written", talk.ask().signature(), signatureOf(1, "x".repeat(96), 5, -1));
        due("write, after a request", talk.ask().write('x'), true);
    }

    private static int signatureOf(int key, String text, int nonce, int who) {
        return Reference.sign(Reference.CLIENT_KEYS[key], Reference.requestDigest(text, nonce, who));
    }

    // Promise 3
    private static void nonce() {
        Talk talk = new Talk(0);
        for (int i = 0; i < 3; i++) {
            due("nonce " + i, talk.ask().nonce(), i);
        }
        talk.ask().crash();
        due("nonce after a crash", talk.ask().nonce(), 1000);
        due("the next nonce", talk.ask().nonce(), 1001);
        talk.ask().crash();
        talk.ask().crash();
        due("nonce after three crashes", talk.ask().nonce(), 3000);
        talk.write(NEW);
        due("a request that spends it", talk.ask().request(0, 3000, -1, 0), 0);
        due("a spent nonce is not given out again", talk.ask().nonce(), 3001);
        Talk many = new Talk(0);
        for (int i = 0; i < 511; i++) {
            many.ask().nonce();
        }
        due("the 512th nonce", many.ask().nonce(), 511);
    }

    // Promise 4: answers -7, -2, -3
    private static void requestsThatAreNotRead() {
        Talk talk = new Talk(0);
        talk.ask().nonce();
        int[] noKeys = {-1, 4, 5, 8, LEAST, MOST};
        for (int key : noKeys) {
            talk.write(NEW);
            due("request by key " + key, talk.ask().request(key, 0, -1, 0), -7);
        }
        due("-7 before -2", talk.ask().request(4, 7, -1, 0), -7);
        int[] noNonces = {1, -1, 1000, LEAST, MOST};
        for (int nonce : noNonces) {
            talk.write(NEW);
            due("request with nonce " + nonce, talk.ask().request(0, nonce, -1, 0), -2);
        }
        talk.write(NEW);
        due("the nonce is good after -7 and -2, the text empty before", talk.ask().request(0, 0, -1, 0), 0);
        due("the nonce is spent", talk.ask().request(0, 0, -1, 0), -2);
        int[] noAccounts = {1, -2, 4, LEAST, MOST};
        for (int who : noAccounts) {
            due("request for account " + who, talk.send(0, who, "{\"op\":\"close\"}"), -3);
        }
        due("request by another key", talk.send(1, 0, "{\"op\":\"close\"}"), -3);
        due("a nonce is spent by -3", talk.ask().request(0, 6, 0, 0), -2);
        int next = talk.ask().nonce();
        due("-3 before -1", talk.ask().request(0, next, -1, 1), -3);
        Talk other = new Talk(0);
        other.open(2);
        for (int bit = 0; bit < 32; bit += 5) {
            other.write(NEW);
            due("request with flip", other.ask().request(2, other.ask().nonce(), -1, 1 << bit), -3);
        }
        due("a nonce given out ahead of a crash", lateRequest(), -2);
        due("the same number given out later", earlyRequest(), 0);
        flipToAnotherKey();
    }

    private static int lateRequest() {
        Talk talk = new Talk(0);
        int nonce = talk.ask().nonce();
        talk.ask().crash();
        talk.ask().nonce();
        talk.write(NEW);
        return talk.ask().request(0, nonce, -1, 0);
    }

    private static int earlyRequest() {
        Talk talk = new Talk(0);
        talk.ask().request(0, 0, -1, 0);
        return talk.open(0);
    }

    /** What is sent counts, not who signed it: flip can turn one key's signature into another's. */
    private static void flipToAnotherKey() {
        Talk talk = new Talk(0);
        talk.open(1);
        talk.write("{\"op\":\"close\"}");
        int nonce = talk.ask().nonce();
        int flip = signatureOf(0, "{\"op\":\"close\"}", nonce, 0) ^ signatureOf(1, "{\"op\":\"close\"}", nonce, 0);
        due("flip to the account's key", talk.ask().request(0, nonce, 0, flip), 0);
        due("the account is closed by it", talk.ask().account(0), 9);
        Talk same = new Talk(0);
        same.write(NEW);
        int signed = signatureOf(0, NEW, same.ask().nonce(), -1);
        int flipBeyond = signed ^ signed + Reference.modulus(Reference.CLIENT_KEYS[0]);
        due("a number beyond the modulus", same.ask().request(0, 0, -1, flipBeyond), -3);
        signatureOfZero();
    }

    private static void signatureOfZero() {
        int modulus = Reference.modulus(Reference.CLIENT_KEYS[0]);
        for (int flip : new int[] {0, modulus, -1}) {
            Talk zero = new Talk(0);
            zero.write(textSignedByZero());
            due("a signature of 0, flip " + flip, zero.ask().request(0, zero.ask().nonce(), -1, flip),
                flip == 0 ? 0 : -3);
            due("a signature of 0", zero.ask().signature(), 0);
        }
    }

    private static String textSignedByZero() {
        for (int i = 0; i < 1000000; i++) {
            String text = "{\"op\":\"new\",\"z\":" + i + "}";
            if (Reference.requestDigest(text, 0, -1) % Reference.modulus(Reference.CLIENT_KEYS[0]) == 0) {
                return text;
            }
        }
        throw new IllegalStateException("no digest is a multiple of the modulus");
    }

    // Promise 4: new
    private static void requestsForAccounts() {
        Talk talk = new Talk(0);
        due("new by key 2", talk.open(2), 0);
        due("new by key 0", talk.open(0), 1);
        due("new by key 2 again", talk.open(2), 0);
        due("words", talk.ask().words(), 6);
        due("new by key 3", talk.open(3), 2);
        due("new by key 1", talk.open(1), 3);
        due("words", talk.ask().words(), 12);
        due("new with WHO", talk.send(2, 0, NEW), -4);
        due("new with another's WHO", talk.send(2, 1, NEW), -3);
        talk.close(2, 0);
        due("new by a closed account's key", talk.open(2), -4);
        due("new for a closed account", talk.send(2, 0, NEW), -3);
        due("new by key 0 again", talk.open(0), 1);
    }

    // Promise 4: order
    private static void requestsForOrders() {
        Talk talk = new Talk(3);
        talk.open(0);
        talk.open(1);
        due("order", talk.order(0, 0, "b", "a", "ab.c"), 0);
        due("words", talk.ask().words(), 6 + 5 + 3 + 3 + 6);
        due("authorization of b", talk.ask().authorization(0, 0), 0);
        due("authorization of a", talk.ask().authorization(0, 1), 1);
        due("authorization of ab.c", talk.ask().authorization(0, 2), 2);
        due("order, while undecided", talk.order(0, 0, "a"), 1);
        due("a new authorization", talk.ask().authorization(1, 0), 3);
        talk.ask().publish(1, 3, 0);
        talk.attempt(0, 0, 3, 1);
        due("proved", talk.ask().tick(), 1);
        int before = talk.ask().words();
        due("order with a known name", talk.order(0, 0, "c", "a"), 2);
        due("words", talk.ask().words() - before, 5 + 3 + 1);
        due("a new authorization for c", talk.ask().authorization(2, 0), 4);
        due("the proved authorization for a", talk.ask().authorization(2, 1), 3);
        due("order of another account", talk.order(1, 1, "a"), 3);
        due("another's authorization is not taken", talk.ask().authorization(3, 0), 5);
        talk.ticks(5);
        due("order after the proof's life", talk.order(0, 0, "a"), 4);
        due("a new authorization", talk.ask().authorization(4, 0), 6);
        leastOfTheProved();
    }

    private static void leastOfTheProved() {
        Talk talk = new Talk(7);
        talk.open(0);
        talk.order(0, 0, "a");
        talk.order(0, 0, "a");
        talk.attempt(0, 0, 0, 0);
        talk.attempt(0, 0, 1, 1);
        talk.ask().publish(0, 0, 0);
        talk.ask().publish(1, 1, 0);
        due("both are proved", talk.ask().tick(), 2);
        talk.order(0, 0, "a");
        due("the least of two", talk.ask().authorization(2, 0), 0);
    }

    private static void tablesWithoutRoom() {
        Talk talk = new Talk(0);
        talk.open(0);
        for (int i = 0; i < 12; i++) {
            due("order " + i, talk.order(0, 0, "a"), i);
        }
        due("a thirteenth order", talk.order(0, 0, "b"), -5);
        due("words", talk.ask().words(), 3 + 12 * 8);
        Talk wide = new Talk(0);
        wide.open(0);
        for (int i = 0; i < 7; i++) {
            due("order " + i, wide.order(0, 0, "a", "b", "c"), i);
        }
        due("order with 23 authorizations", wide.order(0, 0, "a", "b"), 7);
        wide.ask().cut(0);
        due("order with 25 authorizations", wide.order(0, 0, "a", "b"), -5);
        due("no new authorization", wide.ask().state(23), -1);
        wide.ask().cut(8);
        due("order with 24 authorizations, cut", wide.order(0, 0, "a"), -6);
        due("its authorization", wide.ask().authorization(8, 0), 23);
        due("order with 25 authorizations", wide.order(0, 0, "a"), -5);
        due("words", wide.ask().words(), 3 + 7 * 14 + 11 + 8);
    }

    // Promise 4: try
    private static void trials() {
        Talk talk = new Talk(2);
        talk.open(0);
        talk.open(1);
        talk.order(0, 0, "a", "b");
        int words = talk.ask().words();
        due("try of another's", talk.attempt(1, 1, 0, 0), -4);
        due("try of none", talk.attempt(0, 0, 2, 0), -4);
        due("try", talk.attempt(0, 0, 0, 0), 0);
        due("state", talk.ask().state(0), 1);
        due("try under trial", talk.attempt(0, 0, 0, 1), -4);
        due("the other is not under trial", talk.ask().state(1), 0);
        due("no record", talk.ask().words(), words);
        talk.ask().publish(0, 0, 0);
        due("the first way counts", talk.ask().tick(), 1);
        due("try of a proved one", talk.attempt(0, 0, 0, 0), -4);
        talk.attempt(0, 0, 1, 0);
        talk.ask().tick();
        due("failed", talk.ask().state(1), 3);
        due("try of a failed one", talk.attempt(0, 0, 1, 0), -4);
        talk.order(0, 0, "c");
        talk.ticks(4);
        due("try of an expired one", talk.attempt(0, 0, 2, 0), -4);
        Talk cutting = new Talk(2);
        cutting.open(0);
        cutting.order(0, 0, "a");
        cutting.ask().cut(0);
        due("try is not cut", cutting.attempt(0, 0, 0, 0), 0);
        due("new of a known key is not cut", cutting.open(0), 0);
        due("state", cutting.ask().state(0), 1);
    }

    // Promise 4: finish
    private static void finishing() {
        Talk talk = Talk.proved(3, 1, "a", "b.c");
        talk.open(2);
        due("finish by another", talk.finish(2, 1, 0, 3, "a", "b.c"), -4);
        due("finish of none", talk.finish(1, 0, 1, 3, "a", "b.c"), -4);
        due("finish with key 2", talk.finish(1, 0, 0, 2, "a", "b.c"), -4);
        int words = talk.ask().words();
        due("finish", talk.finish(1, 0, 0, 3, "b.c", "a"), 0);
        due("words", talk.ask().words() - words, 5);
        due("finish again", talk.finish(1, 0, 0, 3, "a", "b.c"), -4);
        Talk other = Talk.proved(3, 1, "a", "b");
        due("finish with a name too many", other.finish(1, 0, 0, 3, "a", "b", "a"), -4);
        due("finish with another name", other.finish(1, 0, 0, 3, "a", "c"), -4);
        due("finish with a longer name", other.finish(1, 0, 0, 3, "a", "b.b"), -4);
        due("finish without WHO", other.finish(1, -1, 0, 3, "a", "b"), -4);
        Talk another = Talk.proved(3, 1, "a", "b");
        due("finish with key 0", another.finish(1, 0, 0, 0, "a", "b"), -4);
        due("finish with a name too few", another.finish(1, 0, 0, 3, "a"), -4);
        due("finish with a name twice", another.finish(1, 0, 0, 3, "a", "a"), -4);
        due("finish with another first name", another.finish(1, 0, 0, 3, "c", "b"), -4);
        Talk early = Talk.proved(3, 1, "a");
        early.order(1, 0, "c");
        due("finish of a pending order", early.finish(1, 0, 1, 3, "c"), -4);
        early.ticks(5);
        due("finish of an order too old", early.finish(1, 0, 0, 3, "a"), -4);
        Talk serials = Talk.proved(7, 3, "a");
        due("an order of a proved name", serials.order(3, 0, "a"), 1);
        due("it is ready", serials.ask().order(1), 1);
        due("finish of the later order", serials.finish(3, 0, 1, 999999999, "a"), 0);
        due("finish of the first order", serials.finish(3, 0, 0, 3, "a"), 1);
        stringsOfAnEarlierRequest();
    }

    /** The strings of the refused request stand where the next one has strings that are not in its array. */
    private static void stringsOfAnEarlierRequest() {
        String start = "{\"op\":\"finish\",\"order\":0,\"csr\":{\"names\":";
        Talk two = Talk.proved(3, 1, "a", "b");
        due("names of three", two.send(1, 0, start + "[\"a\",\"aa\",\"b\"],\"key\":3}}"), -4);
        due("names of two", two.send(1, 0, start + "[\"a\",\"a\"],\"b\":0,\"key\":3}}"), -4);
        Talk one = Talk.proved(3, 1, "a");
        due("no such order", one.send(1, 0, start.replace("0", "100") + "[\"a\"],\"key\":3}}"), -4);
        due("no names", one.send(1, 0, start + "[],\"a\":0,\"key\":3}}"), -4);
    }

    // Promise 4: revoke
    private static void revoking() {
        Talk talk = Talk.proved(3, 1, "a");
        talk.open(2);
        due("revoke of none", talk.revoke(1, 0, 0, 0), -4);
        talk.finish(1, 0, 0, 3, "a");
        due("revoke by another", talk.revoke(2, 1, 0, 0), -4);
        due("revoke without WHO", talk.revoke(1, -1, 0, 0), -4);
        due("revoke for 7", talk.revoke(1, 0, 0, 7), -4);
        due("revoke for 11", talk.revoke(1, 0, 0, 11), -4);
        due("not revoked", talk.ask().standing(0), 0);
        int words = talk.ask().words();
        due("revoke for 10", talk.revoke(1, 0, 0, 10), 0);
        due("words", talk.ask().words() - words, 4);
        due("revoked", talk.ask().standing(0), 110);
        due("revoke again", talk.revoke(1, 0, 0, 9), -4);
        for (int why = 0; why < 12; why++) {
            Talk each = Talk.proved(3, 0, "a");
            each.finish(0, 0, 0, 3, "a");
            boolean reason = why != 7 && why != 11;
            due("revoke for " + why, each.revoke(0, 0, 0, why), reason ? 0 : -4);
            due("revoked for " + why, each.ask().standing(0), reason ? 100 + why : 0);
        }
    }

    // Promise 4: close
    private static void closing() {
        Talk talk = Talk.proved(3, 1, "a");
        talk.finish(1, 0, 0, 3, "a");
        talk.order(1, 0, "b");
        int words = talk.ask().words();
        due("close without WHO", talk.close(1, -1), -4);
        due("close", talk.close(1, 0), 0);
        due("words", talk.ask().words() - words, 3);
        due("close again", talk.close(1, 0), -3);
        due("revoke after it", talk.revoke(1, 0, 0, 1), -3);
        due("the certified order", talk.ask().order(0), 2);
        due("the other order", talk.ask().order(1), 3);
        due("a proved authorization", talk.ask().state(0), 3);
        due("an undecided authorization", talk.ask().state(1), 3);
        due("another account", talk.open(0), 1);
    }

    /** Account 0 of key 0, and authorizations enough that the words given are used. */
    private static Talk filled(int words) {
        Talk talk = new Talk(7);
        talk.open(0);
        int left = words - 3;
        while (left > 0) {
            int take = left <= 47 ? left : left - 47 < 8 ? 39 : 47;
            int each = take - 5;
            if (each <= 14) {
                talk.order(0, 0, "a".repeat(each - 2));
            } else if (each <= 28) {
                talk.order(0, 0, "b".repeat(12), "a".repeat(each - 16));
            } else {
                talk.order(0, 0, "b".repeat(12), "c".repeat(12), "a".repeat(each - 30));
            }
            left -= take;
        }
        due("words that were to be used", talk.ask().words(), words);
        return talk;
    }

    private static void storeWithoutRoom() {
        Talk full = filled(200);
        due("new, with 200 used", full.open(1), -5);
        due("close, with 200 used", full.close(0, 0), -5);
        due("order, with 200 used", full.order(0, 0, "z"), -5);
        due("new of a known key", full.open(0), 0);
        due("words", full.ask().words(), 200);
        due("no account", full.ask().account(1), -1);
        due("not closed", full.ask().account(0), 0);
        Talk nearly = filled(198);
        due("new, with 198 used", nearly.open(1), -5);
        nearly.ask().cut(0);
        due("no room comes before the cut", nearly.open(1), -5);
        due("the desk has not crashed", nearly.ask().nonce() < 1000, true);
        Talk just = filled(197);
        due("close, with 197 used", just.close(0, 0), 0);
        due("words", just.ask().words(), 200);
        Talk order = filled(192);
        due("order of 9 words, with 192 used", order.order(0, 0, "zz"), -5);
        due("order of 8 words, with 192 used", order.order(0, 0, "z"), 5);
        due("words", order.ask().words(), 200);
    }

    // Promise 5
    private static void signature() {
        Talk talk = new Talk(0);
        due("signature, if none was made", talk.ask().signature(), 0);
        talk.ask().request(-1, 0, 0, 0);
        due("signature after -7", talk.ask().signature(), 0);
        int[][] requests = {{0, 0, -1, 0}, {1, 5, 0, 77}, {2, -1, 3, -1}, {3, LEAST, MOST, 0}, {3, MOST, LEAST, 1},
            {0, 10, 100, 0}, {1, -10, -100, 0}, {2, 1000000000, -1000000000, 0}, {3, 999999999, 0, 5}};
        for (int[] request : requests) {
            talk.write("{\"op\":\"" + request[0]);
            talk.ask().request(request[0], request[1], request[2], request[3]);
            due("signature by key " + request[0], talk.ask().signature(),
                signatureOf(request[0], "{\"op\":\"" + request[0], request[1], request[2]));
        }
        int latest = talk.ask().signature();
        talk.ask().request(4, 0, 0, 0);
        due("signature after -7", talk.ask().signature(), latest);
        talk.ask().crash();
        due("signature after a crash", talk.ask().signature(), latest);
        Talk first = new Talk(3);
        first.open(0);
        due("the signature of the first of the shared runs", first.ask().signature(), 9068);
        powersOfSignatures();
    }

    private static void powersOfSignatures() {
        for (int key = 0; key < 4; key++) {
            CertificateDesk desk = new CertificateDesk(0);
            int[] primes = Reference.CLIENT_KEYS[key];
            long modulus = Reference.modulus(primes);
            for (int nonce = 0; nonce < 250; nonce++) {
                desk.request(key, nonce, -1, 0);
                long power = 1;
                for (int i = 0; i < primes[2]; i++) {
                    power = power * desk.signature() % modulus;
                }
                due("power of a signature by key " + key, power,
                    Reference.requestDigest("", nonce, -1) % modulus);
            }
        }
    }

    // Promise 6
    private static void publish() {
        Talk talk = new Talk(3);
        due("publish for none", talk.ask().publish(0, 0, 0), false);
        talk.open(0);
        talk.open(1);
        talk.order(0, 0, "a");
        talk.order(1, 1, "a");
        int[][] wrong = {{-1, 0, 0}, {2, 0, 0}, {0, -1, 0}, {0, 2, 0}, {0, 0, -1}, {0, 0, 4}, {LEAST, LEAST, LEAST},
            {MOST, MOST, MOST}, {1, 24, 3}};
        for (int[] call : wrong) {
            due("publish " + List.of(call[0], call[1], call[2]), talk.ask().publish(call[0], call[1], call[2]), false);
        }
        due("nothing was put there", talk.ask().withdraw(0, 0), false);
        due("publish", talk.ask().publish(0, 0, 0), true);
        due("publish in its place", talk.ask().publish(0, 1, 1), true);
        talk.attempt(0, 0, 0, 0);
        talk.attempt(1, 1, 1, 0);
        due("the later one of one name counts", talk.ask().tick(), 1);
        due("the first has failed", talk.ask().state(0), 3);
        due("the second is proved", talk.ask().state(1), 2);
        for (int key = 0; key < 4; key++) {
            for (int owner = 0; owner < 4; owner++) {
                Talk each = new Talk(3);
                each.open(owner);
                each.order(owner, 0, "x.y");
                each.ask().publish(1, 0, key);
                each.attempt(owner, 0, 0, 1);
                due("proof with key " + key + " for " + owner, each.ask().tick(), key == owner ? 1 : 0);
            }
        }
    }

    // Promise 7
    private static void withdraw() {
        Talk talk = new Talk(3);
        talk.open(0);
        talk.order(0, 0, "a", "b");
        talk.order(0, 0, "a");
        due("withdraw, nothing there", talk.ask().withdraw(0, 0), false);
        talk.ask().publish(0, 0, 0);
        talk.ask().publish(1, 0, 0);
        int[][] wrong = {{-1, 0}, {2, 0}, {0, -1}, {0, 3}, {0, 1}, {1, 1}, {LEAST, 0}, {0, MOST}};
        for (int[] call : wrong) {
            due("withdraw " + List.of(call[0], call[1]), talk.ask().withdraw(call[0], call[1]), false);
        }
        due("withdraw by another of the name", talk.ask().withdraw(0, 2), true);
        due("withdraw again", talk.ask().withdraw(0, 0), false);
        talk.ask().crash();
        due("the other way, after a crash", talk.ask().withdraw(1, 0), true);
        talk.ask().publish(0, 0, 0);
        talk.attempt(0, 0, 0, 0);
        talk.ask().withdraw(0, 0);
        due("nothing is found", talk.ask().tick(), 0);
        due("failed", talk.ask().state(0), 3);
    }

    // Promise 8
    private static void tick() {
        Talk talk = new Talk(3);
        due("tick of nothing", talk.ask().tick(), 0);
        talk.open(0);
        talk.order(0, 0, "a", "b", "c");
        due("tick without a trial", talk.ask().tick(), 0);
        talk.ask().publish(0, 0, 0);
        talk.ask().publish(1, 1, 0);
        talk.ask().publish(1, 2, 0);
        talk.attempt(0, 0, 0, 0);
        talk.attempt(0, 0, 1, 0);
        talk.attempt(0, 0, 2, 1);
        int words = talk.ask().words();
        due("two are proved", talk.ask().tick(), 2);
        due("words", talk.ask().words() - words, 15);
        due("proved", talk.ask().state(0), 2);
        due("the wrong way", talk.ask().state(1), 3);
        due("proved", talk.ask().state(2), 2);
        due("the next tick", talk.ask().tick(), 0);
        due("no more words", talk.ask().words() - words, 15);
        Talk late = new Talk(0);
        late.open(0);
        late.order(0, 0, "a");
        late.ask().publish(0, 0, 0);
        late.ask().tick();
        late.attempt(0, 0, 0, 0);
        due("the tick that ends the life decides nothing", late.ask().tick(), 0);
        due("expired", late.ask().state(0), 4);
        due("no record", late.ask().words(), 11);
        Talk closed = new Talk(3);
        closed.open(0);
        closed.order(0, 0, "a");
        closed.ask().publish(0, 0, 0);
        closed.attempt(0, 0, 0, 0);
        closed.close(0, 0);
        due("a closed account's is not decided", closed.ask().tick(), 0);
        due("no record", closed.ask().words(), 14);
    }

    private static void tickWithoutRoom() {
        Talk talk = filled(194);
        talk.attempt(0, 0, 0, 0);
        talk.attempt(0, 0, 1, 0);
        talk.ask().publish(0, 0, 0);
        talk.ask().publish(0, 1, 0);
        due("one has room", talk.ask().tick(), 1);
        due("words", talk.ask().words(), 199);
        due("the first is proved", talk.ask().state(0), 2);
        due("the second stays undecided, not under trial", talk.ask().state(1), 0);
        due("it can be tried again", talk.attempt(0, 0, 1, 1), 0);
        talk.ask().cut(0);
        due("no room is no cut", talk.ask().tick(), 0);
        due("undecided", talk.ask().state(1), 0);
        due("the desk has not crashed", talk.ask().nonce() < 1000, true);
    }

    // Promise 9
    private static void cut() {
        Talk talk = new Talk(3);
        due("cut of -1", talk.ask().cut(-1), false);
        due("cut of the least", talk.ask().cut(LEAST), false);
        due("none is set by it", talk.open(0), 0);
        due("cut of 0", talk.ask().cut(0), true);
        due("a record is cut", talk.open(1), -6);
        due("it is not in the store", talk.ask().words(), 3);
        due("no account", talk.ask().account(1), -1);
        due("one cut, one crash", talk.open(1), 1);
        due("nonce after the crash", talk.ask().nonce(), 1001);
        talk.ask().cut(9);
        talk.ask().cut(-1);
        talk.ask().cut(2);
        due("a cut in the place of another", talk.open(2), -6);
        due("it is not in the store", talk.ask().words(), 6);
        talk.ask().cut(2);
        talk.ask().cut(3);
        talk.ask().cut(-5);
        due("a cut in the place of another", talk.open(2), -6);
        due("it is in the store", talk.ask().words(), 9);
        due("and the account is made", talk.ask().account(2), 2);
        talk.ask().cut(MOST);
        due("a great cut", talk.open(3), -6);
        due("the account is made", talk.ask().account(3), 3);
        talk.ask().cut(0);
        talk.ask().crash();
        due("a cut stays set by a crash", talk.order(0, 0, "a"), -6);
        due("no order", talk.ask().order(0), -1);
    }

    private static void cutOfEachRecord() {
        for (int over = -1; over <= 0; over++) {
            boolean in = over == 0;
            Talk talk = new Talk(7);
            talk.open(0);
            talk.ask().cut(5 + 3 + 4 + over);
            due("order, cut", talk.order(0, 0, "a", "bb"), -6);
            due("order, cut: words", talk.ask().words(), in ? 15 : 3);
            due("order, cut: state", talk.ask().order(0), in ? 0 : -1);
            due("order, cut: authorization", talk.ask().state(1), in ? 0 : -1);
            Talk proved = Talk.proved(7, 0, "a");
            proved.ask().cut(5 + over);
            due("finish, cut", proved.finish(0, 0, 0, 3, "a"), -6);
            due("finish, cut: serial", proved.ask().serial(0), in ? 0 : -1);
            due("finish, cut: order", proved.ask().order(0), in ? 2 : 1);
            due("finish, cut: octets", proved.ask().octet(0, 0), in ? 48 : -1);
            Talk finished = Talk.proved(7, 0, "a");
            finished.finish(0, 0, 0, 3, "a");
            finished.ask().cut(4 + over);
            due("revoke, cut", finished.revoke(0, 0, 0, 5), -6);
            due("revoke, cut: standing", finished.ask().standing(0), in ? 105 : 0);
            finished.ask().cut(3 + over);
            due("close, cut", finished.close(0, 0), -6);
            due("close, cut: account", finished.ask().account(0), in ? 8 : 0);
            due("close, cut: nonce", finished.ask().nonce(), 2000);
            cutTick(5 + over, in);
        }
    }

    private static void cutTick(int cut, boolean in) {
        Talk talk = new Talk(7);
        talk.open(0);
        talk.order(0, 0, "a", "b");
        talk.ask().publish(0, 0, 0);
        talk.ask().publish(0, 1, 0);
        talk.attempt(0, 0, 0, 0);
        talk.attempt(0, 0, 1, 0);
        talk.ask().cut(cut);
        due("tick, cut at " + cut, talk.ask().tick(), in ? 1 : 0);
        due("tick, cut: words", talk.ask().words(), in ? 19 : 14);
        due("tick, cut: the first", talk.ask().state(0), in ? 2 : 0);
        due("tick, cut: the second", talk.ask().state(1), 0);
        due("the next tick", talk.ask().tick(), 0);
        due("the next tick: words", talk.ask().words(), in ? 19 : 14);
        due("one crash", talk.ask().nonce(), 1000);
    }

    // Promise 10
    private static void crash() {
        Talk talk = Talk.proved(3, 0, "a");
        talk.order(0, 0, "b");
        talk.attempt(0, 0, 1, 0);
        talk.ask().publish(0, 1, 0);
        int nonce = talk.ask().nonce();
        int latest = talk.ask().signature();
        talk.write("{\"op\":");
        talk.ask().crash();
        due("nothing is under trial", talk.ask().state(1), 0);
        due("the proved stays", talk.ask().state(0), 2);
        due("the order stays", talk.ask().order(0), 1);
        due("the words stay", talk.ask().words(), 3 + 8 + 5 + 8);
        due("the signature stays", talk.ask().signature(), latest);
        talk.write("\"close\"}");
        due("no nonce is good", talk.ask().request(0, nonce, 0, 0), -2);
        due("the text stayed", talk.ask().signature(), signatureOf(0, "{\"op\":\"close\"}", nonce, 0));
        due("nothing is decided", talk.ask().tick(), 0);
        due("try again", talk.attempt(0, 0, 1, 0), 0);
        due("the network stayed", talk.ask().tick(), 1);
        Talk all = new Talk(7);
        all.open(0);
        all.order(0, 0, "a", "b", "c");
        for (int i = 0; i < 3; i++) {
            all.attempt(0, 0, i, 1);
        }
        all.ask().crash();
        for (int i = 0; i < 3; i++) {
            due("not under trial any more", all.ask().state(i), 0);
        }
    }

    // Promise 11
    private static void words() {
        Talk talk = new Talk(3);
        due("words", talk.ask().words(), 0);
        talk.ask().write('{');
        talk.ask().nonce();
        talk.ask().tick();
        talk.ask().crash();
        due("words without a record", talk.ask().words(), 0);
        talk.ask().request(0, 1000, -1, 0);
        due("words after a refusal", talk.ask().words(), 0);
        talk.open(0);
        due("words of an account", talk.ask().words(), 3);
        talk.order(0, 0, ELEVEN + "l", "m", "n.o");
        due("words of an order", talk.ask().words(), 3 + 5 + 14 + 3 + 5);
    }

    // Promise 12
    private static void account() {
        Talk talk = new Talk(3);
        talk.open(3);
        talk.open(0);
        int[] none = {-1, 2, 3, LEAST, MOST};
        for (int number : none) {
            due("account " + number, talk.ask().account(number), -1);
        }
        due("account 0", talk.ask().account(0), 3);
        due("account 1", talk.ask().account(1), 0);
        talk.close(3, 0);
        due("account 0, closed", talk.ask().account(0), 11);
        due("account 1", talk.ask().account(1), 0);
    }

    // Promise 13
    private static void order() {
        Talk talk = new Talk(0);
        talk.open(0);
        talk.order(0, 0, "a", "b");
        int[] none = {-1, 1, 12, LEAST, MOST};
        for (int number : none) {
            due("order " + number, talk.ask().order(number), -1);
        }
        due("pending", talk.ask().order(0), 0);
        talk.ask().publish(0, 0, 0);
        talk.attempt(0, 0, 0, 0);
        due("pending, under trial", talk.ask().order(0), 0);
        talk.ask().tick();
        due("pending, one proved", talk.ask().order(0), 0);
        talk.ask().tick();
        due("invalid, one expired", talk.ask().order(0), 3);
        Talk young = Talk.proved(2, 0, "a");
        due("ready", young.ask().order(0), 1);
        young.ticks(3);
        due("ready to the last", young.ask().order(0), 1);
        young.ticks(1);
        due("invalid by its authorization", young.ask().order(0), 3);
        Talk old = new Talk(0);
        old.open(0);
        old.order(0, 0, "a");
        old.ask().publish(0, 0, 0);
        old.attempt(0, 0, 0, 0);
        old.ask().tick();
        old.ask().tick();
        due("ready two ticks on", old.ask().order(0), 1);
        old.order(0, 0, "a");
        due("a later order of it", old.ask().order(1), 1);
        old.ask().tick();
        due("invalid", old.ask().order(1), 3);
        ageOfAnOrder();
        Talk done = Talk.proved(2, 0, "a");
        done.finish(0, 0, 0, 3, "a");
        done.ticks(30);
        due("certified, whatever comes", done.ask().order(0), 2);
    }

    /** By the document's numbers an authorization ends ahead of its order's 2 * LIFE: no run tells the age alone. */
    private static void ageOfAnOrder() {
        Talk talk = new Talk(0);
        talk.open(0);
        talk.order(0, 0, "a");
        talk.ask().publish(0, 0, 0);
        talk.attempt(0, 0, 0, 0);
        talk.ask().tick();
        int[] states = {1, 3, 3, 3};
        for (int state : states) {
            talk.ask().tick();
            due("an order that grows old", talk.ask().order(0), state);
        }
    }

    // Promise 14
    private static void authorization() {
        Talk talk = new Talk(3);
        talk.open(0);
        talk.order(0, 0, "a");
        talk.order(0, 0, "b", "c", "a");
        int[][] calls = {{0, 0, 0}, {0, 1, -1}, {0, -1, -1}, {1, 0, 1}, {1, 1, 2}, {1, 2, 3}, {1, 3, -1}, {2, 0, -1},
            {-1, 0, -1}, {LEAST, LEAST, -1}, {MOST, MOST, -1}, {0, LEAST, -1}, {1, MOST, -1}};
        for (int[] call : calls) {
            due("authorization " + List.of(call[0], call[1]), talk.ask().authorization(call[0], call[1]), call[2]);
        }
    }

    // Promise 15
    private static void state() {
        Talk talk = new Talk(1);
        talk.open(0);
        talk.order(0, 0, "a", "b", "c");
        int[] none = {-1, 3, 24, LEAST, MOST};
        for (int number : none) {
            due("state " + number, talk.ask().state(number), -1);
        }
        due("undecided", talk.ask().state(0), 0);
        talk.attempt(0, 0, 0, 1);
        talk.attempt(0, 0, 1, 1);
        due("under trial", talk.ask().state(0), 1);
        talk.ask().publish(1, 0, 0);
        talk.ask().tick();
        due("proved", talk.ask().state(0), 2);
        due("failed", talk.ask().state(1), 3);
        due("undecided", talk.ask().state(2), 0);
        talk.ask().tick();
        due("undecided, the last tick", talk.ask().state(2), 0);
        talk.attempt(0, 0, 2, 1);
        talk.ask().tick();
        due("undecided, at LIFE, though it was under trial", talk.ask().state(2), 4);
        due("proved, the last tick", talk.ask().state(0), 2);
        talk.ask().tick();
        due("proved, at LIFE", talk.ask().state(0), 4);
        due("failed stays", talk.ask().state(1), 3);
        talk.close(0, 0);
        due("closed comes first", talk.ask().state(0), 3);
        due("closed comes first", talk.ask().state(2), 3);
    }

    // Promise 16
    private static void token() {
        Talk talk = new Talk(7);
        talk.open(0);
        talk.order(0, 0, "a.b", "c");
        due("the token of the first of the shared runs", talk.ask().token(1), 1074165705);
        due("token 0", talk.ask().token(0), Reference.digest("a.b/0/0"));
        int[] none = {-1, 2, LEAST, MOST};
        for (int number : none) {
            due("token " + number, talk.ask().token(number), -1);
        }
        talk.ticks(10);
        talk.order(0, 0, "c");
        due("token 2", talk.ask().token(2), Reference.digest("c/2/10"));
        due("token 1 stays", talk.ask().token(1), 1074165705);
    }

    // Promise 17
    private static void serial() {
        Talk talk = Talk.proved(7, 0, "a");
        talk.order(0, 0, "a");
        due("serial of an order without one", talk.ask().serial(0), -1);
        talk.finish(0, 0, 1, 3, "a");
        due("serial of order 1", talk.ask().serial(1), 0);
        due("serial of order 0", talk.ask().serial(0), -1);
        talk.finish(0, 0, 0, 3, "a");
        due("serial of order 0", talk.ask().serial(0), 1);
        talk.revoke(0, 0, 1, 0);
        due("serial of a revoked one", talk.ask().serial(0), 1);
        int[] none = {-1, 2, 12, LEAST, MOST};
        for (int number : none) {
            due("serial of order " + number, talk.ask().serial(number), -1);
        }
    }

    // Promise 18
    private static void octet() {
        int[] keys = {3, 127, 128, 255, 256, 32767, 32768, 8388607, 8388608, 999999999};
        for (int key : keys) {
            Talk talk = Talk.proved(7, 2, "ab", "c.d");
            talk.finish(2, 0, 0, key, "c.d", "ab");
            dueOctets(talk, 0, Reference.certificate(0, 1, key, List.of("ab", "c.d")));
        }
        Talk wide = Talk.proved(7, 2, ELEVEN + "1", ELEVEN + "2", ELEVEN + "3");
        wide.finish(2, 0, 0, 3, ELEVEN + "3", ELEVEN + "2", ELEVEN + "1");
        dueOctets(wide, 0, Reference.certificate(0, 1, 3, List.of(ELEVEN + "1", ELEVEN + "2", ELEVEN + "3")));
        Talk late = new Talk(7);
        late.ticks(127);
        late.open(1);
        late.order(1, 0, "x");
        late.ask().publish(0, 0, 1);
        late.attempt(1, 0, 0, 0);
        late.ask().tick();
        late.finish(1, 0, 0, 128, "x");
        dueOctets(late, 0, Reference.certificate(0, 128, 128, List.of("x")));
        late.ticks(3);
        late.order(1, 0, "x");
        late.finish(1, 0, 1, 3, "x");
        due("the octets of the second", late.ask().octet(1, -1), 30);
        due("its serial", late.ask().octet(1, 6), 1);
        due("its tick", late.ask().octet(1, 10), 131);
        due("its end", late.ask().octet(1, 14), 151);
        fixedOctets();
    }

    private static void fixedOctets() {
        Talk talk = Talk.proved(5, 1, "h.i");
        talk.finish(1, 0, 0, 200, "h.i");
        int[] first = {48, 29, 48, 20, 2, 1, 0, 2, 1, 1, 2, 1, 21, 2, 2, 0, 200, 48, 5, 130, 3, 104, 46, 105, 3, 5, 0};
        for (int k = 0; k < first.length; k++) {
            due("octet " + k, talk.ask().octet(0, k), first[k]);
        }
        due("how many", talk.ask().octet(0, -1), 31);
        talk.revoke(1, 0, 0, 1);
        due("how many, revoked", talk.ask().octet(0, -1), 31);
    }

    private static void dueOctets(Talk talk, int serial, byte[] octets) {
        due("how many octets", talk.ask().octet(serial, -1), octets.length);
        for (int k = 0; k < octets.length; k++) {
            due("octet " + k, talk.ask().octet(serial, k), octets[k] & 255);
        }
        int[] none = {octets.length, -2, LEAST, MOST};
        for (int k : none) {
            due("octet " + k, talk.ask().octet(serial, k), -1);
        }
        int[] noSerials = {serial + 1, -1, LEAST, MOST};
        for (int other : noSerials) {
            due("octet 0 of " + other, talk.ask().octet(other, 0), -1);
            due("how many of " + other, talk.ask().octet(other, -1), -1);
        }
    }

    // Promise 19
    private static void standing() {
        Talk talk = Talk.proved(7, 0, "a");
        talk.ask().tick();
        talk.finish(0, 0, 0, 3, "a");
        talk.order(0, 0, "a");
        talk.finish(0, 0, 1, 3, "a");
        int[] none = {-1, 2, LEAST, MOST};
        for (int serial : none) {
            due("standing of " + serial, talk.ask().standing(serial), -1);
        }
        due("standing", talk.ask().standing(0), 0);
        talk.ticks(19);
        due("standing, 19 ticks on", talk.ask().standing(0), 0);
        talk.ticks(1);
        due("standing, 20 ticks on", talk.ask().standing(0), 1);
        talk.revoke(0, 0, 0, 0);
        due("standing, revoked for 0", talk.ask().standing(0), 100);
        due("standing of the other", talk.ask().standing(1), 1);
    }

    // Promise 20
    private static void listing() {
        Talk talk = Talk.proved(7, 0, "a");
        due("listing of nothing", talk.ask().listing(), Reference.sign(Reference.DESK_KEY, 7));
        for (int order = 0; order < 3; order++) {
            due("certificate", talk.finish(0, 0, order, 3, "a"), order);
            talk.order(0, 0, "a");
        }
        due("listing of none revoked", talk.ask().listing(), listingOf());
        talk.revoke(0, 0, 2, 10);
        due("listing of one", talk.ask().listing(), listingOf(2, 10));
        talk.revoke(0, 0, 0, 0);
        due("listing of two, by their serials", talk.ask().listing(), listingOf(0, 0, 2, 10));
        talk.ask().crash();
        talk.ticks(30);
        due("listing, later", talk.ask().listing(), listingOf(0, 0, 2, 10));
        long power = 1;
        long signed = talk.ask().listing();
        for (int i = 0; i < 65537; i++) {
            power = power * signed % Reference.modulus(Reference.DESK_KEY);
        }
        due("the listing's power", power,
            Reference.digest(new byte[] {0, 0, 2, 10}) % Reference.modulus(Reference.DESK_KEY));
    }

    private static int listingOf(int... octets) {
        byte[] bytes = new byte[octets.length];
        for (int i = 0; i < octets.length; i++) {
            bytes[i] = (byte) octets[i];
        }
        return Reference.sign(Reference.DESK_KEY, Reference.digest(bytes));
    }
}
