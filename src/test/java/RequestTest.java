/** The sentences on a request's answers, and on each op and what it is refused for (promise 4). */
public final class RequestTest extends Sentences {
    private RequestTest() {
    }

    public static void main(String[] arguments) {
        RequestTest test = new RequestTest();
        test.sending();
        test.answers();
        test.accounts();
        test.orders();
        test.tables();
        test.trials();
        test.finishing();
        test.revoking();
        test.closing();
        test.end();
    }

    private void sending() {
        textIsEmptyThen();
        signedDigest();
        flippedBits();
        flippedToAnother();
    }

    private void textIsEmptyThen() {
        sentence("The text is empty then in every case.");
        Talk talk = new Talk(0);
        talk.write(NEW);
        dueEmptyAfter(-7, talk.ask().request(4, 0, -1, 0), talk);
        talk.write(NEW);
        dueEmptyAfter(-2, talk.ask().request(0, 0, -1, 0), talk);
        talk.write(NEW);
        dueEmptyAfter(-3, talk.ask().request(0, talk.ask().nonce(), -1, 1), talk);
        dueEmptyAfter(-1, talk.send(0, -1, "{"), talk);
        dueEmptyAfter(-4, talk.close(0, -1), talk);
        talk.ask().cut(0);
        dueEmptyAfter(-6, talk.open(0), talk);
        dueEmptyAfter(0, talk.open(0), talk);
        talk.fill(200);
        dueEmptyAfter(-5, talk.open(1), talk);
    }

    private void dueEmptyAfter(int want, int answer, Talk talk) {
        due("the answer", answer, want);
        talk.ask().request(0, -5, -1, 0);
        due("the signature of the empty text, after " + want, talk.ask().signature(), signatureOf(0, "", -5, -1));
    }

    private void signedDigest() {
        sentence("The client signs, by that key, the digest of: the text, |, the nonce, |, WHO");
        String[] texts = {"", " ", "|", "|5|6", "~".repeat(95), " ".repeat(96), "~".repeat(96)};
        for (String text : texts) {
            for (int key = 0; key < 4; key++) {
                Talk talk = new Talk(0);
                talk.write(text);
                talk.ask().request(key, 5, 6, 0);
                due("the signature of " + text, talk.ask().signature(), signatureOf(key, text, 5, 6));
            }
        }
    }

    private void flippedBits() {
        sentence("what is sent is that signature with the bits of flip turned (exclusive or)");
        for (int key = 0; key < 4; key++) {
            for (int bit = 0; bit < 32; bit++) {
                Talk talk = new Talk(0);
                talk.write(NEW);
                due("bit " + bit + " turned", talk.ask().request(key, talk.ask().nonce(), -1, 1 << bit), -3);
                due("the signature before flip", talk.ask().signature(), signatureOf(key, NEW, 0, -1));
            }
            Talk all = new Talk(0);
            all.write(NEW);
            due("all bits turned", all.ask().request(key, all.ask().nonce(), -1, -1), -3);
            int modulus = Reference.modulus(Reference.CLIENT_KEYS[key]);
            dueSent("m more than the signature", key, signatureOf(key, NEW, 0, -1) + modulus);
            dueSent("2 * m more than the signature", key, signatureOf(key, NEW, 0, -1) + 2 * modulus);
            dueSent("m less than the signature", key, signatureOf(key, NEW, 0, -1) - modulus);
        }
        signedByZero();
    }

    private void dueSent(String what, int key, int sent) {
        Talk talk = new Talk(0);
        talk.write(NEW);
        int flip = sent ^ signatureOf(key, NEW, 0, -1);
        due(what + ", by key " + key, talk.ask().request(key, talk.ask().nonce(), -1, flip), -3);
    }

    private void signedByZero() {
        int modulus = Reference.modulus(Reference.CLIENT_KEYS[0]);
        for (int sent : new int[] {0, modulus, -modulus, -1, 1, modulus - 1}) {
            Talk talk = new Talk(0);
            talk.write(textSignedByZero());
            due("a signature of 0, sent as " + sent, talk.ask().request(0, talk.ask().nonce(), -1, sent),
                sent == 0 ? 0 : -3);
        }
    }

    private static String textSignedByZero() {
        for (int i = 0; i < 1000000; i++) {
            String text = "{\"op\":\"new\",\"z\":" + i + "}";
            if (signatureOf(0, text, 0, -1) == 0) {
                return text;
            }
        }
        throw new IllegalStateException("no digest is a multiple of the modulus");
    }

    /** What is sent counts, not who signed it. */
    private void flippedToAnother() {
        sentence("if what is sent is not the signature of that digest by the key of account WHO (by the key with which "
            + "it was signed if WHO is -1)");
        for (int key = 0; key < 4; key++) {
            for (int other = 0; other < 4; other++) {
                Talk talk = new Talk(0);
                talk.open(key);
                due("signed by " + other + ", for the account of " + key, talk.close(other, 0), key == other ? 0 : -3);
                Talk turned = new Talk(0);
                turned.open(key);
                turned.write(CLOSE);
                int flip = signatureOf(other, CLOSE, 1, 0) ^ signatureOf(key, CLOSE, 1, 0);
                due("turned from that of " + other + " to that of " + key,
                    turned.ask().request(other, turned.ask().nonce(), 0, flip), 0);
                Talk fresh = new Talk(0);
                fresh.write(NEW);
                int flipFresh = signatureOf(other, NEW, 0, -1) ^ signatureOf(key, NEW, 0, -1);
                due("turned, with WHO -1", fresh.ask().request(other, fresh.ask().nonce(), -1, flipFresh),
                    key == other ? 0 : -3);
            }
        }
    }

    private void answers() {
        noSuchKey();
        noncesGivenOut();
        noncesSpent();
        noOpenAccount();
        nonceFromHereOn();
        newWithWhoAndOthersWithout();
        crashesByIt();
        firstThatApplies();
    }

    private void noSuchKey() {
        sentence("-7 if there is no such key of the client's (nothing is signed then)");
        Talk talk = new Talk(0);
        int nonce = talk.ask().nonce();
        int[] none = {-1, 4, 5, 8, LEAST, MOST};
        for (int key : none) {
            talk.write(NEW);
            due("key " + key, talk.ask().request(key, nonce, -1, 0), -7);
            due("nothing was signed", talk.ask().signature(), 0);
        }
        for (int key = 0; key < 4; key++) {
            talk.write(NEW);
            due("key " + key, talk.ask().request(key, key, -1, 0), key);
            due("signed by key " + key, talk.ask().signature(), signatureOf(key, NEW, key, -1));
            talk.ask().nonce();
        }
    }

    private void noncesGivenOut() {
        sentence("-2 if the nonce is not a GOOD one: given out by the desk since its latest crash");
        Talk talk = new Talk(0);
        due("nonce 0, when none was given out", talk.ask().request(0, 0, -1, 0), -2);
        talk.ask().nonce();
        talk.ask().nonce();
        int[] none = {2, 3, -1, 1000, LEAST, MOST};
        for (int nonce : none) {
            due("nonce " + nonce + ", with two given out", talk.ask().request(0, nonce, -1, 0), -2);
        }
        talk.write(NEW);
        due("the later one of two", talk.ask().request(0, 1, -1, 0), 0);
        talk.write(NEW);
        due("the earlier one of two", talk.ask().request(0, 0, -1, 0), 0);
        int late = talk.ask().nonce();
        talk.ask().crash();
        due("one of before the crash", talk.ask().request(0, late, -1, 0), -2);
        due("nonce 1000, not given out yet", talk.ask().request(0, 1000, -1, 0), -2);
        talk.ask().nonce();
        due("one of before the crash", talk.ask().request(0, late, -1, 0), -2);
        due("nonce 0", talk.ask().request(0, 0, -1, 0), -2);
        due("nonce 999", talk.ask().request(0, 999, -1, 0), -2);
        due("nonce 1001", talk.ask().request(0, 1001, -1, 0), -2);
        talk.write(NEW);
        due("nonce 1000", talk.ask().request(0, 1000, -1, 0), 0);
    }

    private void noncesSpent() {
        sentence("and not in a request answered otherwise than by -7 and -2 since");
        Talk talk = new Talk(0);
        talk.ask().request(0, 0, -1, 0);
        dueSpent(talk, -7, 4, -1, 0, NEW);
        dueSpent(talk, -3, 0, -1, 1, NEW);
        dueSpent(talk, -3, 0, 0, 0, NEW);
        dueSpent(talk, -1, 0, -1, 0, "");
        dueSpent(talk, -4, 0, -1, 0, CLOSE);
        dueSpent(talk, 0, 0, -1, 0, NEW);
        dueSpent(talk, 0, 0, -1, 0, NEW);
        talk.fill(200);
        dueSpent(talk, -5, 1, -1, 0, NEW);
        Talk crashing = new Talk(0);
        crashing.ask().cut(3);
        dueSpent(crashing, -6, 0, -1, 0, NEW);
    }

    private void dueSpent(Talk talk, int want, int key, int who, int flip, String text) {
        int nonce = talk.ask().nonce();
        talk.write(text);
        due("the answer", talk.ask().request(key, nonce, who, flip), want);
        due("the same nonce after " + want, talk.ask().request(0, nonce, -1, 0), want == -7 ? -1 : -2);
        due("and once more", talk.ask().request(0, nonce, -1, 0), -2);
    }

    private void nonceFromHereOn() {
        sentence("(From here on the nonce is no longer good.)");
        Talk talk = new Talk(0);
        int nonce = talk.ask().nonce();
        int other = talk.ask().nonce();
        talk.write(NEW);
        due("a request with another flip", talk.ask().request(0, nonce, -1, 4), -3);
        talk.write(NEW);
        due("the right request, too late", talk.ask().request(0, nonce, -1, 0), -2);
        talk.write(NEW);
        due("the right request, with the other nonce", talk.ask().request(0, other, -1, 0), 0);
    }

    private void noOpenAccount() {
        sentence("-3 if WHO is not -1 and not the number of an open account");
        Talk talk = new Talk(0);
        due("WHO 0, without accounts", talk.close(0, 0), -3);
        talk.open(0);
        talk.open(1);
        int[] none = {2, 3, -2, -3, LEAST, MOST};
        for (int who : none) {
            due("WHO " + who + ", with two accounts", talk.close(0, who), -3);
        }
        due("WHO 0", talk.close(0, 0), 0);
        due("WHO 0, closed", talk.close(0, 0), -3);
        due("WHO 0, closed", talk.send(0, 0, NEW), -3);
        due("WHO 1", talk.close(1, 1), 0);
        due("WHO -1", talk.open(2), 2);
    }

    private void newWithWhoAndOthersWithout() {
        sentence("or op is new and WHO is not -1, or op is not new and WHO is -1");
        Talk talk = Talk.certified(7, 0, "a");
        due("new with WHO", talk.send(0, 0, NEW), -4);
        due("close without WHO", talk.close(0, -1), -4);
        due("order without WHO", talk.order(0, -1, "b"), -4);
        due("try without WHO", talk.attempt(0, -1, 0, 0), -4);
        due("finish without WHO", talk.finish(0, -1, 0, 3, "a"), -4);
        due("revoke without WHO", talk.revoke(0, -1, 0, 0), -4);
        due("nothing was closed", talk.ask().account(0), 0);
        due("nothing was revoked", talk.ask().standing(0), 0);
        due("nothing was ordered", talk.ask().order(1), -1);
        Talk waiting = Talk.ordered(7, 0, "a");
        due("try without WHO", waiting.attempt(0, -1, 0, 0), -4);
        due("nothing is under trial", waiting.ask().state(0), 0);
        Talk ready = Talk.proved(7, 0, "a");
        due("finish without WHO", ready.finish(0, -1, 0, 3, "a"), -4);
        due("no certificate", ready.ask().serial(0), -1);
    }

    private void crashesByIt() {
        sentence("-6 if the desk crashes by it (also if the change is made)");
        Talk talk = new Talk(0);
        talk.ask().cut(2);
        due("new, which is not made", talk.open(0), -6);
        due("no account", talk.ask().account(0), -1);
        talk.ask().cut(3);
        due("new, which is made", talk.open(0), -6);
        due("the account", talk.ask().account(0), 0);
        due("new again", talk.open(0), 0);
        due("two crashes", talk.ask().nonce(), 2001);
    }

    private void firstThatApplies() {
        sentence("Its answer, the first that applies");
        Talk talk = Talk.certified(7, 0, "a");
        due("-7 before -2", talk.ask().request(4, 999, 9, 1), -7);
        due("-2 before -3", talk.ask().request(0, 999, 9, 1), -2);
        due("-3 before -1, by WHO", talk.send(0, 9, "{"), -3);
        due("-3 before -1, by flip", talk.ask().request(0, talk.ask().nonce(), 0, 1), -3);
        due("-1 before -4, by the order", talk.send(0, 0, "{\"op\":\"finish\",\"order\":9}"), -1);
        talk.fill(200);
        due("-4 before -5", talk.close(0, -1), -4);
        due("-4 before -5", talk.revoke(0, 0, 1, 0), -4);
        Talk cutting = Talk.ordered(7, 0, "a");
        cutting.close(0, 0);
        cutting.ask().cut(0);
        due("-4 before -6", cutting.open(0), -4);
        due("-1 before -6", cutting.send(1, -1, "{}"), -1);
        due("-3 before -6", cutting.close(0, 0), -3);
        due("-6", cutting.open(1), -6);
        unreadWithoutWho();
    }

    private void unreadWithoutWho() {
        String[] unread = {"\"order\"", "\"order\",\"names\":[\".\"]", "\"try\"", "\"try\",\"auth\":0,\"way\":2",
            "\"finish\",\"order\":0", "\"finish\",\"order\":0,\"csr\":{\"key\":3}", "\"revoke\"",
            "\"revoke\",\"serial\":0,\"why\":\"0\"", "\"other\""};
        for (String members : unread) {
            String text = "{\"op\":" + members + "}";
            due("-1 before -4, by WHO: " + text, new Talk(0).send(0, -1, text), -1);
        }
    }

    private void accounts() {
        accountThatIs();
        accountThatIsClosed();
        accountThatIsMade();
        noTwoKeysTheSame();
    }

    private void accountThatIs() {
        sentence("new: answers the number of the account with the key that signed, if there is one and it is open "
            + "(nothing else is done then, and there is no record)");
        Talk talk = new Talk(0);
        talk.open(2);
        talk.open(0);
        talk.ask().cut(0);
        due("new by key 2 again", talk.open(2), 0);
        due("new by key 0 again", talk.open(0), 1);
        due("words", talk.ask().words(), 6);
        due("no account more", talk.ask().account(2), -1);
        due("no crash", talk.ask().nonce(), 4);
        due("the cut is still set", talk.open(1), -6);
        Talk full = new Talk(0);
        full.open(0);
        full.fill(200);
        due("new by key 0 again, in a full store", full.open(0), 0);
    }

    private void accountThatIsClosed() {
        sentence("refused if it is closed");
        Talk talk = new Talk(0);
        talk.open(2);
        talk.open(0);
        talk.close(2, 0);
        due("new by a closed account's key", talk.open(2), -4);
        due("it stays closed", talk.ask().account(0), 10);
        due("no account more", talk.ask().account(2), -1);
        due("new by the other key", talk.open(0), 1);
        due("words", talk.ask().words(), 9);
    }

    private void accountThatIsMade() {
        sentence("Else a new account with that key, open, is made: its number. Record: 3 words.");
        Talk talk = new Talk(0);
        int[] keys = {3, 1, 0, 2};
        for (int i = 0; i < keys.length; i++) {
            due("new by key " + keys[i], talk.open(keys[i]), i);
            due("account " + i, talk.ask().account(i), keys[i]);
            due("words", talk.ask().words(), 3 * (i + 1));
        }
        due("no account more", talk.ask().account(4), -1);
    }

    private void noTwoKeysTheSame() {
        sentence("have each a client's key (no two the same)");
        Talk talk = new Talk(0);
        for (int round = 0; round < 3; round++) {
            for (int key = 0; key < 4; key++) {
                due("new by key " + key, talk.open(key), key);
            }
        }
        due("the last account", talk.ask().account(3), 3);
        due("no account more", talk.ask().account(4), -1);
        talk.close(3, 3);
        due("new by the closed account's key", talk.open(3), -4);
        due("no account more", talk.ask().account(4), -1);
    }

    private void orders() {
        numbersOfOrders();
        leastNumber();
        provedOnes();
        ownOnes();
        newOnes();
        wordsOfOrders();
    }

    private void numbersOfOrders() {
        sentence("Makes an order of WHO's: its number.");
        Talk talk = new Talk(0);
        talk.open(0);
        talk.open(1);
        due("the first", talk.order(0, 0, "a"), 0);
        due("of another account", talk.order(1, 1, "a"), 1);
        due("of the first account again", talk.order(0, 0, "a"), 2);
        talk.close(0, 0);
        due("the first account's order", talk.ask().order(0), 3);
        due("the other account's order", talk.ask().order(1), 0);
        due("the first account's order", talk.ask().order(2), 3);
    }

    private void leastNumber() {
        sentence("Its authorization for a name is WHO's authorization with the least number for that name");
        Talk talk = Talk.ordered(7, 0, "b", "a");
        talk.order(0, 0, "a");
        talk.publishAndTry(0, 0, 1);
        talk.ask().publish(1, 2, 0);
        talk.attempt(0, 0, 2, 1);
        due("both are proved", talk.ask().tick(), 2);
        talk.order(0, 0, "a");
        due("the least of two", talk.ask().authorization(2, 0), 1);
        talk.order(0, 0, "b");
        due("another name", talk.ask().authorization(3, 0), 3);
    }

    private void provedOnes() {
        sentence("that has state 2, if there is one");
        Talk talk = Talk.ordered(7, 0, "a");
        talk.attempt(0, 0, 0, 0);
        talk.ask().tick();
        talk.order(0, 0, "a");
        due("none for a failed one", talk.ask().authorization(1, 0), 1);
        talk.order(0, 0, "a");
        talk.publishAndTry(0, 0, 2);
        talk.order(0, 0, "a");
        due("none for one under trial", talk.ask().authorization(3, 0), 3);
        talk.ask().tick();
        talk.order(0, 0, "a");
        due("the proved one, behind a failed and an undecided one", talk.ask().authorization(4, 0), 2);
        Talk aging = Talk.proved(0, 0, "a");
        aging.ask().tick();
        aging.order(0, 0, "a");
        due("LIFE - 1 ticks behind the proof", aging.ask().authorization(1, 0), 0);
        aging.ask().tick();
        aging.order(0, 0, "a");
        due("LIFE ticks behind the proof", aging.ask().authorization(2, 0), 1);
        aging.publishAndTry(0, 0, 1);
        aging.ask().tick();
        aging.order(0, 0, "a");
        due("the proved one, behind an expired one", aging.ask().authorization(3, 0), 1);
    }

    private void ownOnes() {
        sentence("Its authorization for a name is WHO's authorization");
        Talk talk = Talk.proved(7, 0, "a");
        talk.open(1);
        talk.order(1, 1, "a");
        due("a new one for another account", talk.ask().authorization(1, 0), 1);
        due("undecided", talk.ask().state(1), 0);
        talk.order(0, 0, "a");
        due("the account's own", talk.ask().authorization(2, 0), 0);
        talk.publishAndTry(1, 1, 1);
        talk.ask().tick();
        talk.order(1, 1, "a");
        due("the other account's own, behind the first's", talk.ask().authorization(3, 0), 1);
    }

    private void newOnes() {
        sentence("else a new one, undecided (also if there is one that is undecided) (new ones in the order in which "
            + "their names stand in the array)");
        Talk talk = Talk.ordered(7, 0, "c", "a", "b");
        for (int k = 0; k < 3; k++) {
            due("name " + k, talk.ask().authorization(0, k), k);
            due("its token", talk.ask().token(k), Reference.token("cab".substring(k, k + 1), k, 0));
        }
        due("an order of undecided ones", talk.order(0, 0, "b", "c"), 1);
        due("a new one for b", talk.ask().authorization(1, 0), 3);
        due("a new one for c", talk.ask().authorization(1, 1), 4);
        due("undecided", talk.ask().state(3), 0);
        talk.publishAndTry(0, 0, 1);
        talk.ask().tick();
        due("an order with a proved one between", talk.order(0, 0, "z", "a", "y"), 2);
        due("a new one for z", talk.ask().authorization(2, 0), 5);
        due("the proved one for a", talk.ask().authorization(2, 1), 1);
        due("a new one for y", talk.ask().authorization(2, 2), 6);
    }

    private void wordsOfOrders() {
        sentence("Record: 5 words, and for each name 1 word if there was such an authorization, else 2 words and one "
            + "for each character.");
        Talk talk = Talk.proved(7, 0, "a", "bcd");
        int used = talk.ask().words();
        due("new, two names, two decisions", used, 3 + 5 + 3 + 5 + 2 * 5);
        talk.order(0, 0, "bcd");
        due("a proved name", talk.ask().words() - used, 6);
        talk.order(0, 0, "bcd", "a");
        due("two proved names", talk.ask().words() - used, 6 + 7);
        talk.order(0, 0, "a", "abcdefghijkl", "e");
        due("a proved name and two new ones", talk.ask().words() - used, 6 + 7 + 5 + 1 + 14 + 3);
        talk.order(0, 0, "e");
        due("an undecided name", talk.ask().words() - used, 6 + 7 + 23 + 8);
    }

    private void tables() {
        twelveOrders();
        twentyFourAuthorizations();
    }

    private void twelveOrders() {
        sentence("No room if there are 12 orders");
        Talk talk = Talk.proved(7, 0, "a");
        for (int i = 1; i < 12; i++) {
            due("order " + i, talk.order(0, 0, "a"), i);
        }
        int used = talk.ask().words();
        talk.ask().cut(0);
        due("a thirteenth order, without a new authorization", talk.order(0, 0, "a"), -5);
        due("no order more", talk.ask().order(12), -1);
        due("no words more", talk.ask().words(), used);
        due("no crash", talk.ask().nonce() < 1000, true);
        due("-4 before -5", talk.order(0, -1, "a"), -4);
        due("-1 before -5", talk.order(0, 0, "."), -1);
    }

    private void twentyFourAuthorizations() {
        sentence("or there would be more than 24 authorizations");
        Talk talk = Talk.proved(7, 0, "a");
        for (int i = 0; i < 7; i++) {
            talk.order(0, 0, "b", "c", "d");
        }
        due("there are 22", talk.ask().state(21), 0);
        due("no more than 22", talk.ask().state(22), -1);
        due("three would make 25", talk.order(0, 0, "b", "c", "d"), -5);
        due("none was made", talk.ask().state(22), -1);
        due("two make 24, with a proved name", talk.order(0, 0, "b", "a", "c"), 8);
        due("the last of 24", talk.ask().authorization(8, 2), 23);
        due("one would make 25", talk.order(0, 0, "b"), -5);
        due("none was made", talk.ask().state(24), -1);
        due("a proved name makes none", talk.order(0, 0, "a"), 9);
    }

    private void trials() {
        trialsRefused();
        trialsWithoutRecord();
    }

    private void trialsRefused() {
        sentence("Refused unless there is that authorization, it is WHO's, and has state 0.");
        Talk talk = Talk.ordered(0, 0, "a", "b");
        talk.open(1);
        due("there is none", talk.attempt(0, 0, 2, 0), -4);
        due("it is another's", talk.attempt(1, 1, 0, 0), -4);
        due("it stays undecided", talk.ask().state(0), 0);
        due("state 0", talk.attempt(0, 0, 0, 0), 0);
        due("state 1", talk.attempt(0, 0, 0, 1), -4);
        talk.ask().publish(0, 0, 0);
        due("the first way still counts", talk.ask().tick(), 1);
        due("state 2", talk.attempt(0, 0, 0, 0), -4);
        due("the other one, state 0 at the last tick", talk.attempt(0, 0, 1, 0), 0);
        talk.ask().tick();
        due("state 4, after a trial", talk.attempt(0, 0, 1, 0), -4);
        Talk expired = Talk.ordered(0, 0, "a");
        expired.ticks(2);
        due("state 4, without a trial", expired.attempt(0, 0, 0, 0), -4);
        Talk failed = Talk.ordered(7, 0, "a", "b");
        failed.attempt(0, 0, 0, 0);
        failed.ask().tick();
        due("state 3", failed.attempt(0, 0, 0, 0), -4);
        due("the other one, state 0", failed.attempt(0, 0, 1, 0), 0);
    }

    private void trialsWithoutRecord() {
        sentence("It is under trial, by that way: answers 0. No record.");
        Talk talk = Talk.ordered(7, 0, "a", "b");
        talk.ask().cut(0);
        due("try, with a cut set", talk.attempt(0, 0, 0, 0), 0);
        due("state", talk.ask().state(0), 1);
        due("words", talk.ask().words(), 3 + 11);
        due("no crash", talk.ask().nonce(), 3);
        Talk full = Talk.ordered(7, 0, "a").fill(200);
        due("try, in a full store", full.attempt(0, 0, 0, 0), 0);
        due("state", full.ask().state(0), 1);
    }

    private void finishing() {
        finishOfOrders();
        finishWithKeys();
        finishWithNames();
        finishMakes();
        finishOnce();
    }

    private void finishOfOrders() {
        sentence("Refused unless there is that order, it is WHO's and has state 1");
        Talk talk = Talk.proved(0, 1, "a");
        talk.open(2);
        due("there is none", talk.finish(1, 0, 1, 3, "a"), -4);
        due("it is another's", talk.finish(2, 1, 0, 3, "a"), -4);
        talk.ask().tick();
        due("state 1, the last tick", talk.finish(1, 0, 0, 3, "a"), 0);
        due("state 2", talk.finish(1, 0, 0, 3, "a"), -4);
        Talk pending = Talk.ordered(7, 1, "a");
        due("state 0", pending.finish(1, 0, 0, 3, "a"), -4);
        pending.attempt(1, 0, 0, 0);
        due("state 0, under trial", pending.finish(1, 0, 0, 3, "a"), -4);
        pending.ask().tick();
        due("state 3, failed", pending.finish(1, 0, 0, 3, "a"), -4);
        Talk aging = Talk.proved(0, 1, "a");
        aging.ticks(2);
        due("state 3, expired", aging.finish(1, 0, 0, 3, "a"), -4);
        due("no certificate", aging.ask().serial(0), -1);
    }

    private void finishWithKeys() {
        sentence("the key is 3 or more");
        Talk talk = Talk.proved(7, 1, "a");
        for (int key = 0; key < 3; key++) {
            due("key " + key, talk.finish(1, 0, 0, key, "a"), -4);
        }
        due("key 3", talk.finish(1, 0, 0, 3, "a"), 0);
        due("key 4", Talk.proved(7, 1, "a").finish(1, 0, 0, 4, "a"), 0);
        due("key 999999999", Talk.proved(7, 1, "a").finish(1, 0, 0, 999999999, "a"), 0);
    }

    private void finishWithNames() {
        sentence("and the strings are the order's names, each once, in any order");
        String[][] wrong = {{"a"}, {"b"}, {"a", "a"}, {"b", "b"}, {"a", "b", "a"}, {"a", "b", "b"}, {"a", "b", "c"},
            {"a", "c"}, {"c", "b"}, {"a", "b."}, {"a", "bb"}, {"a", "B"}, {"a", ""}, {"a", "b", ""}, {"ab"}, {"a,b"}};
        for (String[] names : wrong) {
            Talk talk = Talk.proved(7, 1, "a", "b");
            due("finish with " + String.join(" and ", names), talk.finish(1, 0, 0, 3, names), -4);
        }
        due("in the order's order", Talk.proved(7, 1, "a", "b").finish(1, 0, 0, 3, "a", "b"), 0);
        due("in another order", Talk.proved(7, 1, "a", "b").finish(1, 0, 0, 3, "b", "a"), 0);
        due("three, in another order", Talk.proved(7, 1, "a", "b", "c").finish(1, 0, 0, 3, "c", "a", "b"), 0);
        due("three, one twice", Talk.proved(7, 1, "a", "b", "c").finish(1, 0, 0, 3, "c", "a", "a"), -4);
        due("part of a name", Talk.proved(7, 1, "ab").finish(1, 0, 0, 3, "a"), -4);
        stringsOfAnEarlierRequest();
    }

    /** The strings of the refused request stand where the next one has strings that are not in its array. */
    private void stringsOfAnEarlierRequest() {
        String start = "{\"op\":\"finish\",\"order\":0,\"csr\":{\"names\":";
        Talk two = Talk.proved(3, 1, "a", "b");
        due("names of three", two.send(1, 0, start + "[\"a\",\"aa\",\"b\"],\"key\":3}}"), -4);
        due("names of two", two.send(1, 0, start + "[\"a\",\"a\"],\"b\":0,\"key\":3}}"), -4);
        Talk one = Talk.proved(3, 1, "a");
        due("no such order", one.send(1, 0, start.replace("0", "100") + "[\"a\"],\"key\":3}}"), -4);
        due("no names", one.send(1, 0, start + "[],\"a\":0,\"key\":3}}"), -4);
    }

    private void finishMakes() {
        sentence("Makes a certificate: its serial. Record: 5 words.");
        Talk talk = Talk.proved(7, 3, "a");
        talk.order(3, 0, "a");
        int used = talk.ask().words();
        due("the later order first", talk.finish(3, 0, 1, 3, "a"), 0);
        due("words", talk.ask().words() - used, 5);
        due("the earlier order", talk.finish(3, 0, 0, 3, "a"), 1);
        due("words", talk.ask().words() - used, 10);
        due("serial of order 0", talk.ask().serial(0), 1);
        due("serial of order 1", talk.ask().serial(1), 0);
    }

    private void finishOnce() {
        sentence("have each an order (each order at most one)");
        Talk talk = Talk.certified(7, 0, "a");
        due("finish again", talk.finish(0, 0, 0, 3, "a"), -4);
        talk.revoke(0, 0, 0, 4);
        due("finish again, after it was revoked", talk.finish(0, 0, 0, 3, "a"), -4);
        due("no certificate more", talk.ask().standing(1), -1);
        due("another order for the name", talk.order(0, 0, "a"), 1);
        due("finish of it", talk.finish(0, 0, 1, 3, "a"), 1);
    }

    private void revoking() {
        revokeOfCertificates();
        reasons();
        revokeMakes();
    }

    private void revokeOfCertificates() {
        sentence("Refused unless there is that certificate, its order is WHO's, it is not revoked");
        Talk talk = Talk.proved(3, 1, "a");
        due("there is none", talk.revoke(1, 0, 0, 0), -4);
        talk.finish(1, 0, 0, 3, "a");
        talk.open(2);
        due("its order is another's", talk.revoke(2, 1, 0, 0), -4);
        due("serial 1", talk.revoke(1, 0, 1, 0), -4);
        due("not revoked", talk.ask().standing(0), 0);
        due("revoke for 0", talk.revoke(1, 0, 0, 0), 0);
        due("it is revoked", talk.revoke(1, 0, 0, 1), -4);
        due("the reason stays", talk.ask().standing(0), 100);
        Talk old = Talk.certified(0, 1, "a");
        old.ticks(25);
        due("revoke of one that is over", old.revoke(1, 0, 0, 5), 0);
        due("its standing", old.ask().standing(0), 105);
    }

    private void reasons() {
        sentence("and why is 0 .. 10 but not 7");
        int[] whys = {0, 1, 2, 3, 4, 5, 6, 7, 8, 9, 10, 11, 12, 17, 100, 999999999};
        for (int why : whys) {
            Talk talk = Talk.certified(3, 0, "a");
            boolean good = why <= 10 && why != 7;
            due("why " + why, talk.revoke(0, 0, 0, why), good ? 0 : -4);
            due("its standing", talk.ask().standing(0), good ? 100 + why : 0);
        }
    }

    private void revokeMakes() {
        sentence("It is revoked for that reason: answers 0. Record: 4 words.");
        Talk talk = Talk.certified(7, 0, "a");
        talk.order(0, 0, "a");
        talk.finish(0, 0, 1, 3, "a");
        int used = talk.ask().words();
        due("revoke of the later", talk.revoke(0, 0, 1, 10), 0);
        due("words", talk.ask().words() - used, 4);
        due("the later", talk.ask().standing(1), 110);
        due("the first", talk.ask().standing(0), 0);
        due("revoke of the first", talk.revoke(0, 0, 0, 6), 0);
        due("words", talk.ask().words() - used, 8);
        due("the first", talk.ask().standing(0), 106);
    }

    private void closing() {
        sentence("close: account WHO is closed: answers 0. Record: 3 words.");
        Talk talk = Talk.certified(3, 1, "a");
        talk.open(2);
        int used = talk.ask().words();
        due("close", talk.close(1, 0), 0);
        due("words", talk.ask().words() - used, 3);
        due("account 0", talk.ask().account(0), 9);
        due("account 1", talk.ask().account(1), 2);
        due("close again", talk.close(1, 0), -3);
        due("revoke after it", talk.revoke(1, 0, 0, 1), -3);
        due("close of the other", talk.close(2, 1), 0);
        due("account 1", talk.ask().account(1), 10);
    }
}
