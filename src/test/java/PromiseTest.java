/** The sentences of the promises themselves, but for request, which has a test of its own: RequestTest. */
public final class PromiseTest extends Sentences {
    private PromiseTest() {
    }

    public static void main(String[] arguments) {
        PromiseTest test = new PromiseTest();
        test.newObject();
        test.write();
        test.nonce();
        test.signature();
        test.publish();
        test.withdraw();
        test.tick();
        test.cut();
        test.crash();
        test.words();
        test.account();
        test.order();
        test.authorization();
        test.state();
        test.token();
        test.serial();
        test.octet();
        test.standing();
        test.listing();
        test.lastCall();
        test.end();
    }

    // Promise 1
    private void newObject() {
        sentence("LIFE is 2 + the lowest three bits of life (2 .. 9)");
        int[][] lives = {{0, 2}, {1, 3}, {2, 4}, {3, 5}, {4, 6}, {5, 7}, {6, 8}, {7, 9}, {8, 2}, {9, 3}, {15, 9},
            {16, 2}, {-1, 9}, {-2, 8}, {-8, 2}, {-9, 9}, {LEAST, 2}, {MOST, 9}};
        for (int[] life : lives) {
            Talk talk = Talk.ordered(life[0], 0, "a");
            talk.ticks(life[1] - 1);
            due("life " + life[0] + ", the tick before the end", talk.ask().state(0), 0);
            talk.ticks(1);
            due("life " + life[0] + ", the end", talk.ask().state(0), 4);
        }
        sentence("no accounts, orders, nonces; the store is empty and no cut is set");
        Talk talk = new Talk(0);
        due("words", talk.ask().words(), 0);
        due("account 0", talk.ask().account(0), -1);
        due("order 0", talk.ask().order(0), -1);
        due("authorization 0", talk.ask().state(0), -1);
        due("certificate 0", talk.ask().standing(0), -1);
        due("a nonce that was not given out", talk.ask().request(0, 0, -1, 0), -2);
        due("the first record is not cut", talk.open(0), 0);
    }

    // Promise 2
    private void write() {
        sentence("false if 96 are there");
        Talk talk = new Talk(0);
        for (int i = 0; i < 96; i++) {
            due("write, with " + i + " there", talk.ask().write('x'), true);
        }
        due("write, with 96 there", talk.ask().write('x'), false);
        due("write, with 96 there", talk.ask().write('"'), false);
        talk.ask().crash();
        due("write, with 96 there, after a crash", talk.ask().write('x'), false);
        talk.ask().request(1, 5, -1, 0);
        due("the 96 that were written", talk.ask().signature(), signatureOf(1, "x".repeat(96), 5, -1));
        due("write, with none there", talk.ask().write('x'), true);
        sentence("or its code is not 32 .. 126");
        int[] wrong = {0, 9, 10, 31, 127, 128, 255, 256, 32 + 256, 126 + 256, 32767, 32768, 65535};
        Talk codes = new Talk(0);
        StringBuilder written = new StringBuilder();
        for (int code : wrong) {
            due("write " + code, codes.ask().write((char) code), false);
        }
        for (int code = 32; code <= 126; code++) {
            due("write " + code, codes.ask().write((char) code), true);
            written.append((char) code);
        }
        for (int code : wrong) {
            due("write " + code + ", with 95 there", codes.ask().write((char) code), false);
        }
        due("write, with 95 there", codes.ask().write('x'), true);
        codes.ask().request(0, 5, -1, 0);
        due("what was written", codes.ask().signature(), signatureOf(0, written + "x", 5, -1));
    }

    // Promise 3
    private void nonce() {
        sentence("1000 * the number of crashes so far + how many nonces were given out ahead of it since the latest "
            + "one (so the first is 0)");
        Talk talk = new Talk(0);
        for (int i = 0; i < 3; i++) {
            due("nonce " + i, talk.ask().nonce(), i);
        }
        talk.ask().crash();
        due("the first after a crash", talk.ask().nonce(), 1000);
        due("the second", talk.ask().nonce(), 1001);
        talk.ask().crash();
        talk.ask().crash();
        due("the first after three crashes", talk.ask().nonce(), 3000);
        talk.write(NEW);
        due("a request that spends it", talk.ask().request(0, 3000, -1, 0), 0);
        due("a spent one is not given out again", talk.ask().nonce(), 3001);
        talk.ask().cut(3);
        talk.open(1);
        due("after a crash by a cut", talk.ask().nonce(), 4000);
        Talk many = new Talk(0);
        for (int i = 0; i < 499; i++) {
            due("nonce " + i, many.ask().nonce(), i);
        }
        many.write("{}");
        due("a request with the last of 499", many.ask().request(0, 498, -1, 0), -1);
        due("and again", many.ask().request(0, 498, -1, 0), -2);
        due("nonce 499", many.ask().nonce(), 499);
        due("a request with the first of 500", many.ask().request(0, 0, -1, 0), -1);
    }

    // Promise 5
    private void signature() {
        sentence("0 if none was made");
        Talk talk = new Talk(0);
        due("at first", talk.ask().signature(), 0);
        talk.ask().request(-1, 0, 0, 0);
        due("after a request that is answered -7", talk.ask().signature(), 0);
        talk.write("x");
        talk.ask().nonce();
        talk.ask().crash();
        due("after calls that sign nothing", talk.ask().signature(), 0);
        sentence("The signature that the client made last (before flip; none by a request that is answered -7)");
        int[][] requests = {{0, 0, -1, 0}, {1, 5, 0, 77}, {2, -1, 3, -1}, {3, LEAST, MOST, LEAST}, {3, MOST, LEAST, 1}};
        for (int[] request : requests) {
            String text = "{\"op\":\"" + request[0];
            Talk each = new Talk(0);
            each.write(text);
            due("answer", each.ask().request(request[0], request[1], request[2], request[3]), -2);
            int signed = signatureOf(request[0], text, request[1], request[2]);
            due("by key " + request[0], each.ask().signature(), signed);
            each.write(text);
            due("answer", each.ask().request(4, request[1], request[2], 0), -7);
            due("after -7", each.ask().signature(), signed);
            each.ask().crash();
            due("after a crash", each.ask().signature(), signed);
            each.ask().request(0, 9, -1, 0);
            due("the next one", each.ask().signature(), signatureOf(0, "", 9, -1));
        }
        Talk answered = new Talk(3);
        answered.open(0);
        due("by a request that was answered 0", answered.ask().signature(), 9068);
        answered.send(1, 0, CLOSE);
        due("by one that was answered -3", answered.ask().signature(), signatureOf(1, CLOSE, 1, 0));
    }

    // Promise 6
    private void publish() {
        sentence("for a way and the authorization's name, in the place of what was there: true");
        Talk talk = Talk.ordered(3, 0, "a");
        talk.open(1);
        talk.order(1, 1, "a");
        due("publish", talk.ask().publish(0, 0, 0), true);
        due("publish the same again", talk.ask().publish(0, 0, 0), true);
        due("publish in its place", talk.ask().publish(0, 1, 1), true);
        talk.attempt(0, 0, 0, 0);
        talk.attempt(1, 1, 1, 0);
        due("the later number counts", talk.ask().tick(), 1);
        due("the first has failed", talk.ask().state(0), 3);
        due("the second is proved", talk.ask().state(1), 2);
        due("publish for a failed one", talk.ask().publish(1, 0, 3), true);
        talk.ticks(9);
        due("publish for an expired one", talk.ask().publish(1, 1, 3), true);
        sentence("False if way is not 0 or 1, there is no such authorization, or no such key.");
        due("without authorizations", new Talk(0).ask().publish(0, 0, 0), false);
        Talk refused = Talk.ordered(3, 0, "a");
        int[][] wrong = {{-1, 0, 0}, {2, 0, 0}, {LEAST, 0, 0}, {MOST, 0, 0}, {0, -1, 0}, {0, 1, 0}, {0, 24, 0},
            {0, LEAST, 0}, {0, MOST, 0}, {0, 0, -1}, {0, 0, 4}, {0, 0, LEAST}, {0, 0, MOST}, {1, 0, 4}, {1, 1, 0}};
        for (int[] call : wrong) {
            due("publish " + call[0] + ", " + call[1] + ", " + call[2],
                refused.ask().publish(call[0], call[1], call[2]), false);
        }
        due("nothing was put there, by way 0", refused.ask().withdraw(0, 0), false);
        due("nothing was put there, by way 1", refused.ask().withdraw(1, 0), false);
        for (int key = 0; key < 4; key++) {
            due("publish with key " + key, refused.ask().publish(key % 2, 0, key), true);
        }
    }

    // Promise 7
    private void withdraw() {
        sentence("What the network has for a way and an authorization's name is taken out: true");
        Talk talk = Talk.ordered(3, 0, "a", "b");
        talk.order(0, 0, "a");
        talk.ask().publish(0, 0, 0);
        talk.ask().publish(1, 0, 0);
        talk.ask().publish(0, 1, 0);
        due("by another authorization for the name", talk.ask().withdraw(0, 2), true);
        due("again", talk.ask().withdraw(0, 0), false);
        talk.ask().crash();
        due("by the other way, after a crash", talk.ask().withdraw(1, 0), true);
        due("for the other name", talk.ask().withdraw(0, 1), true);
        talk.publishAndTry(0, 0, 0);
        talk.ask().withdraw(0, 0);
        due("nothing is found", talk.ask().tick(), 0);
        due("failed", talk.ask().state(0), 3);
        sentence("false if way is not 0 or 1, there is no such authorization, or there was nothing");
        due("without authorizations", new Talk(0).ask().withdraw(0, 0), false);
        Talk refused = Talk.ordered(3, 0, "a", "b");
        due("there was nothing", refused.ask().withdraw(0, 0), false);
        refused.ask().publish(0, 0, 0);
        int[][] wrong = {{-1, 0}, {2, 0}, {LEAST, 0}, {MOST, 0}, {0, -1}, {0, 2}, {0, 24}, {0, LEAST}, {0, MOST},
            {0, 1}, {1, 0}, {1, 1}};
        for (int[] call : wrong) {
            due("withdraw " + call[0] + ", " + call[1], refused.ask().withdraw(call[0], call[1]), false);
        }
        due("it is still there", refused.ask().withdraw(0, 0), true);
        due("there is nothing any more", refused.ask().withdraw(0, 0), false);
    }

    // Promise 8
    private void tick() {
        sentence("how many authorizations were proved by it (by records that got into the store)");
        due("of none", new Talk(0).ask().tick(), 0);
        due("of one that is not tried", Talk.ordered(7, 0, "a").ask().tick(), 0);
        for (int found = 0; found <= 3; found++) {
            Talk talk = Talk.tried(7, 0, "a", "b", "c");
            for (int i = found; i < 3; i++) {
                talk.ask().withdraw(0, i);
            }
            due("of three that are tried", talk.ask().tick(), found);
            due("by the next tick", talk.ask().tick(), 0);
        }
        Talk cutting = Talk.tried(7, 0, "a", "b");
        cutting.ask().cut(4);
        due("by a record that did not get in", cutting.ask().tick(), 0);
        Talk saved = Talk.tried(7, 0, "a", "b");
        saved.ask().cut(5);
        due("by a record that got in, and a crash", saved.ask().tick(), 1);
        due("with room for one", Talk.tried(7, 0, "a", "b").fill(191).ask().tick(), 1);
        due("with room for none", Talk.tried(7, 0, "a", "b").fill(196).ask().tick(), 0);
    }

    // Promise 9
    private void cut() {
        sentence("A cut is set, of n words, in the place of one that was set: true");
        Talk talk = new Talk(3);
        due("cut of 0", talk.ask().cut(0), true);
        due("the record is cut", talk.open(0), -6);
        due("no words", talk.ask().words(), 0);
        due("cut of 3", talk.ask().cut(3), true);
        due("cut of 2 in its place", talk.ask().cut(2), true);
        due("the record is cut", talk.open(0), -6);
        due("no words", talk.ask().words(), 0);
        due("cut of 2", talk.ask().cut(2), true);
        due("cut of 3 in its place", talk.ask().cut(3), true);
        due("the record gets in", talk.open(0), -6);
        due("three words", talk.ask().words(), 3);
        due("two cuts were one", talk.open(1), 1);
        due("the greatest cut", talk.ask().cut(MOST), true);
        due("the record gets in", talk.open(2), -6);
        due("its words", talk.ask().words(), 9);
        sentence("false, and nothing changes, if n is less than 0");
        Talk refused = new Talk(3);
        due("cut of -1", refused.ask().cut(-1), false);
        due("cut of the least", refused.ask().cut(LEAST), false);
        due("none is set by it", refused.open(0), 0);
        refused.ask().cut(3);
        due("cut of -1", refused.ask().cut(-1), false);
        due("the one that was set stays", refused.open(1), -6);
        due("the record got in", refused.ask().account(1), 1);
        due("it was one", refused.open(2), 2);
    }

    // Promise 10
    private void crash() {
        sentence("The desk CRASHES; a cut that was set stays set.");
        Talk talk = Talk.tried(7, 0, "a");
        int nonce = talk.ask().nonce();
        talk.ask().cut(2);
        talk.ask().crash();
        talk.ask().crash();
        due("nothing is under trial", talk.ask().state(0), 0);
        due("no nonce is good", talk.ask().request(0, nonce, -1, 0), -2);
        due("the cut is set", talk.open(1), -6);
        due("its record did not get in", talk.ask().account(1), -1);
        due("three crashes", talk.ask().nonce(), 3000);
        due("no cut is set any more", talk.open(1), 1);
    }

    // Promise 11
    private void words() {
        sentence("How many words of the store are used.");
        Talk talk = new Talk(3);
        due("none", talk.ask().words(), 0);
        talk.ask().write('{');
        talk.ask().nonce();
        talk.ask().tick();
        talk.ask().crash();
        talk.ask().request(0, talk.ask().nonce(), -1, 0);
        due("none by calls without a record", talk.ask().words(), 0);
        talk.open(0);
        due("those of an account", talk.ask().words(), 3);
        talk.order(0, 0, "abcdefghijkl", "m", "n.o");
        due("those of an order", talk.ask().words(), 3 + 5 + 14 + 3 + 5);
        due("the most", talk.fill(200).ask().words(), 200);
    }

    // Promise 12
    private void account() {
        sentence("An account's key, and 8 more if it is closed; NONE if there is no such account.");
        Talk talk = new Talk(3);
        due("account 0, without accounts", talk.ask().account(0), -1);
        for (int i = 0; i < 4; i++) {
            due("account " + i + ", not made yet", talk.ask().account(i), -1);
            talk.open(3 - i);
            due("account " + i, talk.ask().account(i), 3 - i);
        }
        for (int i = 0; i < 4; i++) {
            talk.close(3 - i, i);
            due("account " + i + ", closed", talk.ask().account(i), 11 - i);
        }
        int[] none = {-1, 4, LEAST, MOST};
        for (int number : none) {
            due("account " + number, talk.ask().account(number), -1);
        }
    }

    // Promise 13
    private void order() {
        sentence("The STATE of an order; NONE if there is no such order.");
        due("order 0, without orders", new Talk(0).ask().order(0), -1);
        Talk talk = Talk.ordered(7, 0, "a");
        int[] none = {-1, 1, 12, LEAST, MOST};
        for (int number : none) {
            due("order " + number, talk.ask().order(number), -1);
        }
        due("state 0", talk.ask().order(0), 0);
        due("state 1", Talk.proved(7, 0, "a").ask().order(0), 1);
        due("state 2", Talk.certified(7, 0, "a").ask().order(0), 2);
        talk.close(0, 0);
        due("state 3", talk.ask().order(0), 3);
    }

    // Promise 14
    private void authorization() {
        sentence("The authorization of an order's k-th name (from 0); NONE if there is no such order or name.");
        due("without orders", new Talk(0).ask().authorization(0, 0), -1);
        Talk talk = Talk.ordered(3, 0, "a");
        talk.order(0, 0, "b", "c", "a");
        int[][] calls = {{0, 0, 0}, {0, 1, -1}, {0, -1, -1}, {1, 0, 1}, {1, 1, 2}, {1, 2, 3}, {1, 3, -1}, {1, -1, -1},
            {2, 0, -1}, {-1, 0, -1}, {LEAST, 0, -1}, {MOST, 0, -1}, {0, LEAST, -1}, {1, MOST, -1}};
        for (int[] call : calls) {
            due("name " + call[1] + " of order " + call[0], talk.ask().authorization(call[0], call[1]), call[2]);
        }
    }

    // Promise 15
    private void state() {
        sentence("The STATE of an authorization; NONE if there is no such one.");
        due("without authorizations", new Talk(0).ask().state(0), -1);
        Talk talk = Talk.tried(0, 0, "a", "b");
        talk.ask().withdraw(0, 1);
        int[] none = {-1, 2, 24, LEAST, MOST};
        for (int number : none) {
            due("state " + number, talk.ask().state(number), -1);
        }
        due("state 1", talk.ask().state(0), 1);
        talk.ask().tick();
        due("state 2", talk.ask().state(0), 2);
        due("state 3", talk.ask().state(1), 3);
        talk.ticks(2);
        due("state 4", talk.ask().state(0), 4);
        talk.order(0, 0, "a");
        due("state 0", talk.ask().state(2), 0);
    }

    // Promise 16
    private void token() {
        sentence("The TOKEN of an authorization; NONE if there is no such one.");
        due("without authorizations", new Talk(0).ask().token(0), -1);
        Talk talk = Talk.ordered(7, 0, "a.b", "c");
        due("token 0", talk.ask().token(0), Reference.digest("a.b/0/0"));
        due("token 1", talk.ask().token(1), 1074165705);
        int[] none = {-1, 2, 24, LEAST, MOST};
        for (int number : none) {
            due("token " + number, talk.ask().token(number), -1);
        }
        talk.ticks(10);
        due("token 1 of an expired one", talk.ask().token(1), 1074165705);
    }

    // Promise 17
    private void serial() {
        sentence("The serial of an order's certificate; NONE if it has none, or there is no such order.");
        due("without orders", new Talk(0).ask().serial(0), -1);
        Talk talk = Talk.proved(7, 0, "a");
        talk.order(0, 0, "a");
        due("of an order without one", talk.ask().serial(0), -1);
        talk.finish(0, 0, 1, 3, "a");
        due("of order 1", talk.ask().serial(1), 0);
        due("of order 0, without one", talk.ask().serial(0), -1);
        talk.finish(0, 0, 0, 3, "a");
        due("of order 0", talk.ask().serial(0), 1);
        talk.revoke(0, 0, 1, 0);
        due("of a revoked one", talk.ask().serial(0), 1);
        int[] none = {-1, 2, 12, LEAST, MOST};
        for (int number : none) {
            due("of order " + number, talk.ask().serial(number), -1);
        }
    }

    // Promise 18
    private void octet() {
        sentence("Octet k (from 0) of a certificate; how many it has if k is -1; NONE if there is no such certificate "
            + "or octet.");
        due("without certificates", new Talk(0).ask().octet(0, 0), -1);
        due("how many, without certificates", new Talk(0).ask().octet(0, -1), -1);
        Talk talk = Talk.certified(5, 1, "h.i");
        int[] octets = {48, 28, 48, 19, 2, 1, 0, 2, 1, 1, 2, 1, 21, 2, 1, 3, 48, 5, 130, 3, 104, 46, 105, 3, 5, 0};
        for (int k = 0; k < octets.length; k++) {
            due("octet " + k, talk.ask().octet(0, k), octets[k]);
        }
        due("how many", talk.ask().octet(0, -1), 30);
        due("the last is there", talk.ask().octet(0, 29) >= 0, true);
        int[] none = {30, 31, 80, -2, LEAST, MOST};
        for (int k : none) {
            due("octet " + k, talk.ask().octet(0, k), -1);
        }
        int[] noSerials = {1, -1, LEAST, MOST};
        for (int serial : noSerials) {
            due("octet 0 of " + serial, talk.ask().octet(serial, 0), -1);
            due("how many of " + serial, talk.ask().octet(serial, -1), -1);
        }
        talk.revoke(1, 0, 0, 1);
        talk.ticks(21);
        due("how many, revoked and over", talk.ask().octet(0, -1), 30);
    }

    // Promise 19
    private void standing() {
        sentence("else 1 if NOW is 20 ticks or more behind the tick when it was made; else 0");
        Talk talk = Talk.proved(7, 0, "a");
        talk.ask().tick();
        talk.finish(0, 0, 0, 3, "a");
        for (int behind = 0; behind < 20; behind++) {
            due(behind + " ticks on", talk.ask().standing(0), 0);
            talk.ask().tick();
        }
        due("20 ticks on", talk.ask().standing(0), 1);
        talk.ask().tick();
        due("21 ticks on", talk.ask().standing(0), 1);
        sentence("100 + the reason if a certificate is revoked");
        talk.revoke(0, 0, 0, 0);
        due("revoked for 0, when it was over", talk.ask().standing(0), 100);
        Talk revoked = Talk.certified(7, 0, "a");
        revoked.revoke(0, 0, 0, 10);
        due("revoked for 10", revoked.ask().standing(0), 110);
        revoked.ticks(25);
        due("revoked for 10, 25 ticks on", revoked.ask().standing(0), 110);
        revoked.close(0, 0);
        due("revoked for 10, its account closed", revoked.ask().standing(0), 110);
        sentence("NONE if there is no such certificate");
        due("without certificates", new Talk(0).ask().standing(0), -1);
        int[] none = {-1, 1, 12, LEAST, MOST};
        for (int serial : none) {
            due("standing of " + serial, revoked.ask().standing(serial), -1);
        }
    }

    // Promise 20
    private void listing() {
        sentence("for each revoked certificate, in the order of serials, its serial and its reason, one octet each");
        Talk talk = Talk.proved(7, 0, "a");
        due("of none", talk.ask().listing(), listingOf());
        for (int order = 0; order < 3; order++) {
            due("certificate " + order, talk.finish(0, 0, order, 3, "a"), order);
            talk.order(0, 0, "a");
        }
        due("of none revoked", talk.ask().listing(), listingOf());
        talk.revoke(0, 0, 2, 10);
        due("of one", talk.ask().listing(), listingOf(2, 10));
        talk.revoke(0, 0, 0, 0);
        due("of two, by their serials", talk.ask().listing(), listingOf(0, 0, 2, 10));
        talk.ask().crash();
        talk.ticks(30);
        due("later", talk.ask().listing(), listingOf(0, 0, 2, 10));
        due("its power", Reference.opened(Reference.DESK_KEY, talk.ask().listing()),
            Reference.digest(new byte[] {0, 0, 2, 10}) % Reference.modulus(Reference.DESK_KEY));
        Talk first = Talk.certified(7, 0, "a");
        first.revoke(0, 0, 0, 0);
        due("of serial 0 for reason 0", first.ask().listing(), listingOf(0, 0));
    }

    private void lastCall() {
        sentence("An object is used for at most 512 calls after it has been made");
        Talk nonces = new Talk(0);
        Talk crashes = new Talk(0);
        Talk ticks = Talk.certified(0, 0, "a");
        for (int i = 0; i < 511; i++) {
            nonces.ask().nonce();
            crashes.ask().crash();
        }
        due("the nonce of the last call", nonces.ask().nonce(), 511);
        due("the nonce of the last call, after crashes alone", crashes.ask().nonce(), 511000);
        ticks.ticks(300);
        due("a standing, 300 ticks on", ticks.ask().standing(0), 1);
        Talk request = new Talk(0);
        request.write(NEW);
        for (int i = NEW.length(); i < 511; i++) {
            request.ask().nonce();
        }
        due("a request with the latest nonce, as the last call",
            request.ask().request(0, 510 - NEW.length(), -1, 0), 0);
    }

    private static int listingOf(int... octets) {
        byte[] bytes = new byte[octets.length];
        for (int i = 0; i < octets.length; i++) {
            bytes[i] = (byte) octets[i];
        }
        return Reference.sign(Reference.DESK_KEY, Reference.digest(bytes));
    }
}
