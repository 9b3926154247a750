import java.util.ArrayList;
import java.util.List;

/** The sentences under "Terms" on digests, signatures, time, states, tokens and octets, each at its edges. */
public final class TermsTest extends Sentences {
    private static final int GREATEST_DIGEST = 2147483646;
    private static final String ELEVEN = "abcdefghijk";

    private final WantedDigest wanted = new WantedDigest();

    private TermsTest() {
    }

    public static void main(String[] arguments) {
        TermsTest test = new TermsTest();
        test.digests();
        test.signatures();
        test.times();
        test.statesOfAuthorizations();
        test.statesOfOrders();
        test.tokensAndProofs();
        test.octets();
        test.end();
    }

    private void digests() {
        beginsWithSeven();
        wrapsAround();
        numbersInTexts();
        minusInFront();
    }

    private void beginsWithSeven() {
        sentence("DIGEST of octets: begin with 7");
        due("the digest of no octets", Reference.opened(Reference.DESK_KEY, new Talk(0).ask().listing()), 7);
    }

    private void wrapsAround() {
        sentence("for each octet c the digest d becomes (263 * d + c) mod 2147483647");
        int[] digests = {0, 1, 262, 263, 1 << 30, GREATEST_DIGEST - 1, GREATEST_DIGEST};
        for (int digest : digests) {
            Talk talk = new Talk(0);
            for (int key = 0; key < 4; key++) {
                talk.write(wanted.text(digest, 0, -1));
                talk.ask().request(key, 0, -1, 0);
                due("the signature of " + digest + " by key " + key, talk.ask().signature(),
                    Reference.sign(Reference.CLIENT_KEYS[key], digest));
            }
        }
    }

    private void numbersInTexts() {
        sentence("Numbers in texts are decimal, without a sign or zeros in front (a lone 0 for 0).");
        int[] numbers = {0, 1, 9, 10, 11, 99, 100, 101, 999999999, 1000000000, 1000000001, MOST};
        dueForNumbers(numbers);
        due("the token of authorization 0, made at tick 0", Talk.ordered(0, 0, "a").ask().token(0),
            Reference.digest("a/0/0"));
    }

    private void minusInFront() {
        sentence("(nonce and WHO with - in front if they are negative)");
        dueForNumbers(-1, -9, -10, -99, -100, -999999999, -1000000000, -MOST, LEAST);
    }

    private void dueForNumbers(int... numbers) {
        for (int number : numbers) {
            Talk talk = new Talk(0);
            talk.ask().request(3, number, 5, 0);
            due("the signature with nonce " + number, talk.ask().signature(), signatureOf(3, "", number, 5));
            talk.ask().request(3, 7, number, 0);
            due("the signature with WHO " + number, talk.ask().signature(), signatureOf(3, "", 7, number));
        }
    }

    private void signatures() {
        leastAndGreatestSignatures();
        powersOfSignatures();
    }

    private int signatureOfDigest(int key, int digest) {
        Talk talk = new Talk(0);
        talk.write(wanted.text(digest, 0, -1));
        talk.ask().request(key, 0, -1, 0);
        return talk.ask().signature();
    }

    private void leastAndGreatestSignatures() {
        sentence("The SIGNATURE of a digest d by a key is the number s from 0 to m - 1");
        for (int key = 0; key < 4; key++) {
            int modulus = Reference.modulus(Reference.CLIENT_KEYS[key]);
            due("of 0, by key " + key, signatureOfDigest(key, 0), 0);
            due("of 1, by key " + key, signatureOfDigest(key, 1), 1);
            due("of m - 1, by key " + key, signatureOfDigest(key, modulus - 1), modulus - 1);
            due("of m, by key " + key, signatureOfDigest(key, modulus), 0);
            due("of m + 1, by key " + key, signatureOfDigest(key, modulus + 1), 1);
            due("of 2 * m - 1, by key " + key, signatureOfDigest(key, 2 * modulus - 1), modulus - 1);
        }
    }

    private void powersOfSignatures() {
        sentence("for which s to the power x leaves the same remainder by m as d does (there is exactly one)");
        for (int key = 0; key < 4; key++) {
            int[] parts = Reference.CLIENT_KEYS[key];
            int modulus = Reference.modulus(parts);
            int[] digests = {2, parts[0], parts[1], modulus - parts[0], modulus + parts[1], 5 * parts[0],
                GREATEST_DIGEST, GREATEST_DIGEST / modulus * modulus};
            for (int digest : digests) {
                due("the power of the signature of " + digest + " by key " + key,
                    Reference.opened(parts, signatureOfDigest(key, digest)), digest % modulus);
            }
        }
    }

    private void times() {
        sentence("TIME is counted in ticks; NOW is 0 at first.");
        Talk talk = Talk.ordered(7, 0, "a");
        due("the token of tick 0", talk.ask().token(0), Reference.digest("a/0/0"));
        talk.ask().tick();
        talk.order(0, 0, "a");
        due("the token of tick 1", talk.ask().token(1), Reference.digest("a/1/1"));
    }

    private void statesOfAuthorizations() {
        closedOrFailed();
        proved();
        expired();
        underTrial();
        firstThatHolds();
    }

    private void closedOrFailed() {
        sentence("3 if its account is closed or it has failed");
        Talk talk = Talk.ordered(0, 0, "proved", "failed", "waiting");
        talk.publishAndTry(0, 0, 0);
        talk.attempt(0, 0, 1, 0);
        talk.ask().tick();
        talk.order(0, 0, "tried");
        talk.attempt(0, 0, 3, 0);
        int[] states = {2, 3, 0, 1};
        for (int i = 0; i < states.length; i++) {
            due("state " + i, talk.ask().state(i), states[i]);
        }
        talk.close(0, 0);
        for (int i = 0; i < states.length; i++) {
            due("state " + i + ", of a closed account", talk.ask().state(i), 3);
        }
        Talk failed = Talk.ordered(0, 0, "a");
        failed.attempt(0, 0, 0, 0);
        failed.ask().tick();
        for (int behind = 0; behind < 4; behind++) {
            due("a failed one, " + behind + " ticks on", failed.ask().state(0), 3);
            failed.ask().tick();
        }
    }

    private void proved() {
        sentence("2 if it is proved and NOW is less than LIFE ticks behind that tick");
        for (int life = 2; life <= 9; life++) {
            Talk talk = Talk.proved(life - 2, 0, "a");
            for (int behind = 0; behind < life; behind++) {
                due("life " + life + ", " + behind + " ticks on", talk.ask().state(0), 2);
                talk.ask().tick();
            }
            due("life " + life + ", " + life + " ticks on", talk.ask().state(0), 4);
            talk.ask().tick();
            due("life " + life + ", a tick later", talk.ask().state(0), 4);
        }
    }

    private void expired() {
        sentence("4 if NOW is LIFE ticks or more behind the tick when it was proved, or made if it is undecided");
        for (int life = 2; life <= 9; life++) {
            Talk talk = Talk.ordered(life - 2, 0, "a");
            talk.ticks(life - 1);
            due("undecided, life " + life + ", the tick before", talk.ask().state(0), 0);
            talk.order(0, 0, "a");
            talk.publishAndTry(0, 0, 0);
            due("under trial, life " + life + ", the tick before", talk.ask().state(0), 1);
            talk.ask().tick();
            due("under trial, life " + life, talk.ask().state(0), 4);
            talk.ticks(life - 2);
            due("made later, life " + life + ", the tick before", talk.ask().state(1), 0);
            talk.ask().tick();
            due("made later, life " + life, talk.ask().state(1), 4);
        }
        Talk late = Talk.ordered(1, 0, "a");
        late.ask().tick();
        late.publishAndTry(0, 0, 0);
        late.ask().tick();
        late.ticks(2);
        due("proved at the last, LIFE - 1 ticks on", late.ask().state(0), 2);
        late.ask().tick();
        due("proved at the last, LIFE ticks on", late.ask().state(0), 4);
    }

    private void underTrial() {
        sentence("1 if it is undecided and UNDER TRIAL; 0 otherwise.");
        Talk talk = Talk.ordered(7, 0, "a", "b");
        due("not tried", talk.ask().state(0), 0);
        talk.attempt(0, 0, 1, 1);
        due("tried", talk.ask().state(1), 1);
        due("the other", talk.ask().state(0), 0);
        talk.ask().crash();
        due("after a crash", talk.ask().state(1), 0);
        talk.attempt(0, 0, 1, 0);
        due("tried again", talk.ask().state(1), 1);
        talk.ask().tick();
        due("decided", talk.ask().state(1), 3);
    }

    private void firstThatHolds() {
        sentence("(The first of these that holds.)");
        Talk closed = Talk.tried(0, 0, "proved", "failed");
        closed.ask().withdraw(0, 1);
        closed.ask().tick();
        closed.ticks(2);
        due("proved, and LIFE is over", closed.ask().state(0), 4);
        due("failed, and LIFE is over", closed.ask().state(1), 3);
        closed.close(0, 0);
        due("proved, LIFE is over, and the account is closed", closed.ask().state(0), 3);
        due("failed, LIFE is over, and the account is closed", closed.ask().state(1), 3);
        Talk late = Talk.ordered(0, 0, "a", "b");
        late.ask().tick();
        late.publishAndTry(0, 0, 0);
        late.ask().tick();
        due("under trial, and LIFE is over", late.ask().state(0), 4);
        late.close(0, 0);
        due("under trial, LIFE is over, and the account is closed", late.ask().state(0), 3);
        due("undecided, LIFE is over, and the account is closed", late.ask().state(1), 3);
    }

    private void statesOfOrders() {
        certifiedOrder();
        oldOrder();
        brokenOrder();
        readyOrder();
    }

    private void certifiedOrder() {
        sentence("2 if it has a certificate");
        Talk talk = Talk.certified(0, 0, "a");
        due("certified", talk.ask().order(0), 2);
        talk.ticks(2);
        due("its authorization has expired", talk.ask().state(0), 4);
        due("certified, with an expired authorization", talk.ask().order(0), 2);
        talk.ticks(2);
        due("certified, 2 * LIFE ticks on", talk.ask().order(0), 2);
        talk.revoke(0, 0, 0, 1);
        due("certified, and revoked", talk.ask().order(0), 2);
        talk.close(0, 0);
        due("certified, of a closed account", talk.ask().order(0), 2);
    }

    /** The latest proof comes at LIFE - 1 and ends at 2 * LIFE - 1, so that no run can tell the age alone. */
    private void oldOrder() {
        sentence("3 if NOW is 2 * LIFE ticks or more behind the tick when it was made");
        for (int life = 2; life <= 9; life++) {
            Talk talk = new Talk(life - 2);
            talk.open(0);
            talk.ticks(3);
            talk.order(0, 0, "a");
            talk.ticks(life - 2);
            talk.publishAndTry(0, 0, 0);
            talk.ask().tick();
            for (int behind = life - 1; behind < 2 * life - 1; behind++) {
                due("life " + life + ", " + behind + " ticks on", talk.ask().order(0), 1);
                talk.ask().tick();
            }
            for (int behind = 2 * life - 1; behind < 2 * life + 2; behind++) {
                due("life " + life + ", " + behind + " ticks on", talk.ask().order(0), 3);
                talk.ask().tick();
            }
        }
    }

    private void brokenOrder() {
        sentence("or one of its authorizations has state 3 or 4");
        for (int broken = 0; broken < 3; broken++) {
            Talk failing = Talk.tried(7, 0, "a", "b", "c");
            failing.ask().withdraw(0, broken);
            failing.ask().tick();
            due("number " + broken + " has failed", failing.ask().order(0), 3);
            Talk aging = Talk.ordered(7, 0, "a", "b", "c");
            for (int i = 0; i < 3; i++) {
                if (i != broken) {
                    aging.publishAndTry(0, 0, i);
                }
            }
            aging.ticks(8);
            due("number " + broken + " is undecided", aging.ask().order(0), 0);
            aging.ask().tick();
            due("number " + broken + " has expired", aging.ask().state(broken), 4);
            due("with it expired, the others proved", aging.ask().order(0), 3);
        }
        Talk closing = Talk.proved(7, 0, "a");
        closing.close(0, 0);
        due("of a closed account", closing.ask().order(0), 3);
    }

    private void readyOrder() {
        sentence("1 if all of them have state 2; else 0");
        for (int last = 0; last < 3; last++) {
            Talk talk = Talk.ordered(7, 0, "a", "b", "c");
            due("undecided all", talk.ask().order(0), 0);
            for (int i = 0; i < 3; i++) {
                if (i != last) {
                    talk.publishAndTry(0, 0, i);
                }
            }
            due("under trial", talk.ask().order(0), 0);
            due("proved", talk.ask().tick(), 2);
            due("all but " + last + " are proved", talk.ask().order(0), 0);
            talk.publishAndTry(0, 0, last);
            due("the last is under trial", talk.ask().order(0), 0);
            talk.ask().tick();
            due("all are proved", talk.ask().order(0), 1);
        }
        due("the only one is proved", Talk.proved(0, 0, "a").ask().order(0), 1);
    }

    private void tokensAndProofs() {
        tokens();
        proofs();
    }

    private void tokens() {
        sentence("The TOKEN of an authorization is the digest of the text of its name, /, its number, /, "
            + "the tick when it was made.");
        Talk talk = new Talk(0);
        talk.open(0);
        for (int i = 0; i < 3; i++) {
            talk.order(0, 0, "a", "b", "c");
        }
        talk.ticks(9);
        talk.order(0, 0, ELEVEN + "l");
        talk.ask().tick();
        talk.order(0, 0, "z", "0.9");
        talk.ticks(90);
        talk.order(0, 0, "z");
        String[] texts = {"a/0/0", "b/1/0", "c/2/0", "a/3/0", "b/4/0", "c/5/0", "a/6/0", "b/7/0", "c/8/0",
            ELEVEN + "l/9/9", "z/10/10", "0.9/11/10", "z/12/100"};
        for (int i = 0; i < texts.length; i++) {
            due("token " + i, talk.ask().token(i), Reference.digest(texts[i]));
        }
    }

    /** A proof is never told; it is seen only by whether the tick finds it. */
    private void proofs() {
        sentence("Its PROOF with a key is the digest of the text of the token, a dot, the key's thumbprint.");
        for (int owner = 0; owner < 4; owner++) {
            for (int key = 0; key < 4; key++) {
                Talk talk = Talk.ordered(3, owner, "x.y");
                talk.ask().publish(1, 0, key);
                talk.attempt(owner, 0, 0, 1);
                due("the proof with key " + key + ", of key " + owner, talk.ask().tick(), key == owner ? 1 : 0);
            }
        }
        Talk twice = Talk.ordered(3, 0, "a");
        twice.order(0, 0, "a");
        twice.ask().publish(0, 1, 0);
        twice.attempt(0, 0, 0, 0);
        due("the proof of another authorization for the name", twice.ask().tick(), 0);
    }

    private void octets() {
        integersOfKeys();
        integersOfTicks();
        rows();
        names();
        seals();
    }

    private void dueOctets(Talk talk, int serial, byte[] octets) {
        due("how many octets", talk.ask().octet(serial, -1), octets.length);
        for (int k = 0; k < octets.length; k++) {
            due("octet " + k, talk.ask().octet(serial, k), octets[k] & 255);
        }
        due("an octet behind the last", talk.ask().octet(serial, octets.length), -1);
    }

    private void integersOfKeys() {
        sentence("as few as there can be (at least one) so that the first is less than 128");
        int[][] keys = {{3, 1, 3}, {127, 1, 127}, {128, 2, 0, 128}, {255, 2, 0, 255}, {256, 2, 1, 0},
            {32767, 2, 127, 255}, {32768, 3, 0, 128, 0}, {65535, 3, 0, 255, 255}, {8388607, 3, 127, 255, 255},
            {8388608, 4, 0, 128, 0, 0}, {999999999, 4, 59, 154, 201, 255}};
        for (int[] key : keys) {
            Talk talk = Talk.proved(7, 2, "ab");
            talk.finish(2, 0, 0, key[0], "ab");
            due("the serial's tag", talk.ask().octet(0, 4), 2);
            due("the serial's octets", talk.ask().octet(0, 5), 1);
            due("serial 0", talk.ask().octet(0, 6), 0);
            due("the tag of key " + key[0], talk.ask().octet(0, 13), 2);
            for (int i = 1; i < key.length; i++) {
                due("key " + key[0], talk.ask().octet(0, 13 + i), key[i]);
            }
            due("what is behind the key", talk.ask().octet(0, 13 + key.length), 48);
            dueOctets(talk, 0, Reference.certificate(0, 1, key[0], List.of("ab")));
        }
    }

    private void integersOfTicks() {
        sentence("the tick when it was made, that tick + 20");
        int[] ticks = {1, 107, 108, 127, 128, 235, 236, 255, 256};
        for (int tick : ticks) {
            Talk talk = new Talk(7);
            talk.ticks(tick - 1);
            talk.open(1);
            talk.order(1, 0, "x");
            talk.publishAndTry(1, 0, 0);
            talk.ask().tick();
            talk.finish(1, 0, 0, 3, "x");
            dueOctets(talk, 0, Reference.certificate(0, tick, 3, List.of("x")));
        }
    }

    private void rows() {
        sentence("A ROW of parts is 48, the number of octets of the parts together, and the parts.");
        Talk least = Talk.certified(7, 0, "a");
        int[] first = {48, 26, 48, 17, 2, 1, 0, 2, 1, 1, 2, 1, 21, 2, 1, 3, 48, 3, 130, 1, 97, 3, 5, 0};
        for (int k = 0; k < first.length; k++) {
            due("octet " + k + " of the least certificate", least.ask().octet(0, k), first[k]);
        }
        due("the octets of the least certificate", least.ask().octet(0, -1), 28);
        String[] names = {ELEVEN + "1", ELEVEN + "2", ELEVEN + "3"};
        Talk widest = Talk.certified(7, 2, names);
        due("the whole of the widest", widest.ask().octet(0, 1), 65);
        due("the body of the widest", widest.ask().octet(0, 3), 56);
        due("the names of the widest", widest.ask().octet(0, 17), 42);
        dueOctets(widest, 0, Reference.certificate(0, 1, 3, List.of(names)));
    }

    private void names() {
        sentence("has for each name of the order, in its order, 130, the number of its characters, and these");
        Talk talk = Talk.proved(7, 0, "b.2", "a", "cc");
        talk.finish(0, 0, 0, 3, "cc", "a", "b.2");
        int[] names = {48, 12, 130, 3, 98, 46, 50, 130, 1, 97, 130, 2, 99, 99, 3};
        for (int k = 0; k < names.length; k++) {
            due("octet " + k + " of the names", talk.ask().octet(0, 16 + k), names[k]);
        }
        talk.order(0, 0, "cc", "a");
        due("the later order's certificate", talk.finish(0, 0, 1, 3, "a", "cc"), 1);
        dueOctets(talk, 1, Reference.certificate(1, 1, 3, List.of("cc", "a")));
    }

    private void seals() {
        sentence("the SEAL: 3, 5, 0, and four octets of the signature of the digest of the body's octets by the desk's "
            + "key, the highest first");
        List<Integer> keys = new ArrayList<>();
        for (int bits = 24; bits >= 16; bits -= 8) {
            keys.add(keyWithSealBelow(1 << bits));
        }
        for (int key : keys) {
            Talk talk = Talk.proved(7, 0, "a");
            talk.finish(0, 0, 0, key, "a");
            int size = talk.ask().octet(0, -1);
            int seal = 0;
            for (int k = size - 4; k < size; k++) {
                seal = seal << 8 | talk.ask().octet(0, k);
            }
            due("octet 0 of the seal", talk.ask().octet(0, size - 7), 3);
            due("octet 1 of the seal", talk.ask().octet(0, size - 6), 5);
            due("octet 2 of the seal", talk.ask().octet(0, size - 5), 0);
            due("the highest octet", talk.ask().octet(0, size - 4), 0);
            byte[] body = new byte[size - 9];
            for (int k = 0; k < body.length; k++) {
                body[k] = (byte) talk.ask().octet(0, 2 + k);
            }
            due("the power of the seal", Reference.opened(Reference.DESK_KEY, seal),
                Reference.digest(body) % Reference.modulus(Reference.DESK_KEY));
        }
    }

    private static int keyWithSealBelow(int bound) {
        for (int key = 3; key < 1000000; key++) {
            byte[] octets = Reference.certificate(0, 1, key, List.of("a"));
            int high = (octets[octets.length - 4] & 255) << 16 | (octets[octets.length - 3] & 255) << 8
                | octets[octets.length - 2] & 255;
            if (high < bound >> 8) {
                return key;
            }
        }
        throw new IllegalStateException("no key number has a seal below " + bound);
    }
}
