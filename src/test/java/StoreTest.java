import java.util.List;
import java.util.function.Predicate;
import java.util.function.Supplier;
import java.util.function.ToIntFunction;

/** The sentences on the network, ticks, the store, crashes and cuts, each at its edges. */
public final class StoreTest extends Sentences {
    private static final int ROOM = 200;

    /** A change that has a record: where it begins, the call that makes it, and whether it is seen to be made. */
    private record Change(String name, int words, boolean byTick, Supplier<Talk> start, ToIntFunction<Talk> call,
        Predicate<Talk> seen) {
    }

    private static final List<Change> CHANGES = List.of(
        new Change("new", 3, false, () -> opened(), talk -> talk.open(1), talk -> talk.ask().account(1) == 1),
        new Change("order", 12, false, () -> opened(), talk -> talk.order(0, 0, "a", "bb"),
            talk -> authorizationsFor("bb", talk) == 1),
        new Change("order of a proved name", 6, false, () -> Talk.proved(7, 0, "a"), talk -> talk.order(0, 0, "a"),
            talk -> readyOrders(talk) == 2),
        new Change("finish", 5, false, () -> Talk.proved(7, 0, "a"), talk -> talk.finish(0, 0, 0, 3, "a"),
            talk -> talk.ask().order(0) == 2 && talk.ask().serial(0) == 0 && talk.ask().octet(0, 0) == 48),
        new Change("revoke", 4, false, () -> Talk.certified(7, 0, "a"), talk -> talk.revoke(0, 0, 0, 5),
            talk -> talk.ask().standing(0) == 105),
        new Change("close", 3, false, () -> opened(), talk -> talk.close(0, 0), talk -> talk.ask().account(0) == 8),
        new Change("a decision", 5, true, () -> Talk.tried(7, 0, "a"), talk -> talk.ask().tick(),
            talk -> talk.ask().state(0) == 2));

    private StoreTest() {
    }

    public static void main(String[] arguments) {
        StoreTest test = new StoreTest();
        test.network();
        test.ticks();
        test.room();
        test.crashes();
        test.cuts();
        test.end();
    }

    private static Talk opened() {
        Talk talk = new Talk(7);
        talk.open(0);
        return talk;
    }

    private static int authorizationsFor(String name, Talk talk) {
        int count = 0;
        for (int i = 0; i < 24; i++) {
            count += talk.ask().token(i) == Reference.token(name, i, 0) ? 1 : 0;
        }
        return count;
    }

    private static int readyOrders(Talk talk) {
        int count = 0;
        for (int i = 0; i < 12; i++) {
            count += talk.ask().order(i) == 1 ? 1 : 0;
        }
        return count;
    }

    /** The answer is 0 for whatever number a request's change answers; a tick tells how many it proved instead. */
    private void dueChange(String what, Change change, Talk talk, int answer, boolean made) {
        int used = talk.ask().words();
        int got = change.call.applyAsInt(talk);
        if (change.byTick) {
            due(change.name + what, got, made ? 1 : 0);
        } else {
            due(change.name + what, Math.min(got, 0), answer);
        }
        due(change.name + what + ": its words", talk.ask().words() - used, made ? change.words : 0);
        due(change.name + what + ": it is made", change.seen.test(talk), made);
    }

    private void network() {
        sentence("The NETWORK has for each of two ways, 0 and 1, and each name, at most one number; at first none.");
        Talk talk = Talk.ordered(7, 0, "a", "b");
        talk.order(0, 0, "a");
        for (int way = 0; way < 2; way++) {
            for (int number = 0; number < 3; number++) {
                due("nothing at first", talk.ask().withdraw(way, number), false);
            }
        }
        talk.ask().publish(0, 0, 0);
        talk.ask().publish(0, 2, 0);
        due("nothing for the other name", talk.ask().withdraw(0, 1), false);
        due("nothing for the other way", talk.ask().withdraw(1, 0), false);
        due("one for the name", talk.ask().withdraw(0, 0), true);
        due("not two for the name", talk.ask().withdraw(0, 2), false);
        talk.ask().publish(1, 2, 0);
        talk.attempt(0, 0, 0, 1);
        talk.attempt(0, 0, 2, 1);
        due("the number of the later one", talk.ask().tick(), 1);
        due("the first has failed", talk.ask().state(0), 3);
        due("the later one is proved", talk.ask().state(2), 2);
        numbersOfManyNames();
    }

    private void numbersOfManyNames() {
        Talk talk = opened();
        for (char c = 'a'; c < 'a' + 24; c += 3) {
            talk.order(0, 0, "" + c, "" + (char) (c + 1), "" + (char) (c + 2));
        }
        for (int number = 0; number < 24; number++) {
            due("one by way 1, for name " + number, talk.ask().publish(1, number, 0), true);
            due("none by way 0, for name " + number, talk.ask().withdraw(0, number), false);
        }
        for (int number = 0; number < 24; number++) {
            due("one by way 1, for name " + number, talk.ask().withdraw(1, number), true);
        }
        Talk again = Talk.ordered(7, 0, "a", "b", "c");
        again.order(0, 0, "c", "b");
        for (int number = 0; number < 3; number++) {
            again.ask().publish(0, number, 0);
        }
        due("that of c, by its later authorization", again.ask().withdraw(0, 3), true);
        due("that of b, by its later authorization", again.ask().withdraw(0, 4), true);
        due("no more of c", again.ask().withdraw(0, 2), false);
        due("no more of b", again.ask().withdraw(0, 1), false);
        due("that of a", again.ask().withdraw(0, 0), true);
    }

    private void ticks() {
        stateByThisNow();
        numbersInOrder();
        wayAndName();
        sinceNow();
        notUnderTrialAnyMore();
        noRoomForDecision();
        tickEnds();
    }

    private void stateByThisNow() {
        sentence("NOW grows by 1; then each authorization that has state 1, by this NOW, is decided");
        for (int life = 2; life <= 9; life++) {
            Talk intime = Talk.ordered(life - 2, 0, "a");
            intime.ticks(life - 2);
            intime.publishAndTry(0, 0, 0);
            due("LIFE - 1 ticks behind", intime.ask().tick(), 1);
            due("proved", intime.ask().state(0), 2);
            Talk late = Talk.ordered(life - 2, 0, "a");
            late.ticks(life - 1);
            late.publishAndTry(0, 0, 0);
            int used = late.ask().words();
            due("LIFE ticks behind", late.ask().tick(), 0);
            due("not decided", late.ask().state(0), 4);
            due("no record", late.ask().words(), used);
        }
        Talk closed = Talk.tried(7, 0, "a");
        closed.close(0, 0);
        int used = closed.ask().words();
        due("of a closed account", closed.ask().tick(), 0);
        due("no record", closed.ask().words(), used);
        due("nothing to decide", new Talk(0).ask().tick(), 0);
    }

    private void numbersInOrder() {
        sentence("in the order of their numbers");
        Talk talk = Talk.ordered(7, 0, "a", "b");
        talk.publishAndTry(0, 0, 1);
        talk.publishAndTry(0, 0, 0);
        talk.fill(ROOM - 5);
        due("room for one", talk.ask().tick(), 1);
        due("the first number has it", talk.ask().state(0), 2);
        due("not the second", talk.ask().state(1), 0);
        Talk cutting = Talk.ordered(7, 0, "a", "b");
        cutting.publishAndTry(0, 0, 1);
        cutting.publishAndTry(0, 0, 0);
        cutting.ask().cut(5);
        due("one, and the crash", cutting.ask().tick(), 1);
        due("the first number is decided", cutting.ask().state(0), 2);
        due("not the second", cutting.ask().state(1), 0);
    }

    private void wayAndName() {
        sentence("proved if the network has for its way and name the number that is its proof with its account's key, "
            + "else failed");
        for (int tried = 0; tried < 2; tried++) {
            for (int way = 0; way < 2; way++) {
                Talk talk = Talk.ordered(7, 0, "a", "b");
                talk.ask().publish(way, 0, 0);
                talk.attempt(0, 0, 0, tried);
                talk.attempt(0, 0, 1, tried);
                due("by way " + tried + ", published by way " + way, talk.ask().tick(), way == tried ? 1 : 0);
                due("its state", talk.ask().state(0), way == tried ? 2 : 3);
                due("the other name has nothing", talk.ask().state(1), 3);
            }
        }
        Talk another = Talk.ordered(7, 0, "a");
        another.open(1);
        another.order(1, 1, "a");
        another.ask().publish(0, 0, 1);
        another.attempt(0, 0, 0, 0);
        due("its proof with another account's key", another.ask().tick(), 0);
        another.ask().publish(0, 1, 1);
        another.attempt(1, 1, 1, 0);
        due("the other account's own", another.ask().tick(), 1);
        Talk gone = Talk.tried(7, 0, "a");
        gone.ask().withdraw(0, 0);
        due("nothing, as it was withdrawn", gone.ask().tick(), 0);
        due("failed", gone.ask().state(0), 3);
    }

    private void sinceNow() {
        sentence("else failed, since NOW");
        Talk talk = Talk.ordered(0, 0, "a");
        talk.publishAndTry(0, 0, 0);
        talk.ask().tick();
        talk.ask().tick();
        due("LIFE ticks behind its making, LIFE - 1 behind its proof", talk.ask().state(0), 2);
        talk.ask().tick();
        due("LIFE ticks behind its proof", talk.ask().state(0), 4);
    }

    private void notUnderTrialAnyMore() {
        sentence("it is not under trial any more. Record: 5 words.");
        Talk talk = Talk.tried(7, 0, "a", "b", "c");
        talk.ask().withdraw(0, 1);
        int used = talk.ask().words();
        due("two of three", talk.ask().tick(), 2);
        due("words", talk.ask().words() - used, 15);
        talk.ask().publish(0, 1, 0);
        due("none by the next tick", talk.ask().tick(), 0);
        due("words", talk.ask().words() - used, 15);
        due("the failed one stays so", talk.ask().state(1), 3);
    }

    private void noRoomForDecision() {
        sentence("If the store has no room for it, the authorization stays undecided (and is not under trial any "
            + "more).");
        Talk talk = Talk.tried(7, 0, "a", "b").fill(ROOM - 4);
        talk.ask().cut(0);
        due("none is proved", talk.ask().tick(), 0);
        for (int i = 0; i < 2; i++) {
            due("undecided, not under trial", talk.ask().state(i), 0);
        }
        due("words", talk.ask().words(), ROOM - 4);
        due("no crash", talk.ask().nonce() < 1000, true);
        due("it can be tried again", talk.attempt(0, 0, 0, 1), 0);
        talk.ask().tick();
        due("undecided again", talk.ask().state(0), 0);
        Talk failing = Talk.ordered(7, 0, "a");
        failing.attempt(0, 0, 0, 0);
        failing.fill(ROOM);
        failing.ask().tick();
        due("not failed without room", failing.ask().state(0), 0);
    }

    private void tickEnds() {
        sentence("If the desk crashes by it, the tick ends (if the record got in, that one is decided).");
        for (int cut = 3; cut <= 7; cut++) {
            boolean in = cut >= 5;
            Talk talk = Talk.tried(0, 0, "a", "b");
            int used = talk.ask().words();
            talk.ask().cut(cut);
            due("cut " + cut, talk.ask().tick(), in ? 1 : 0);
            due("words", talk.ask().words() - used, in ? 5 : 0);
            due("the first", talk.ask().state(0), in ? 2 : 0);
            due("the second", talk.ask().state(1), 0);
            due("one crash", talk.ask().nonce(), 1000);
            due("NOW has grown: the next tick is the second", talk.ask().tick(), 0);
            due("the second expires by it", talk.ask().state(1), 4);
            due("words", talk.ask().words() - used, in ? 5 : 0);
        }
        Talk failing = Talk.ordered(7, 0, "a");
        failing.attempt(0, 0, 0, 0);
        failing.ask().cut(5);
        due("none is proved", failing.ask().tick(), 0);
        due("the failed one is decided", failing.ask().state(0), 3);
        Talk later = Talk.ordered(7, 0, "a", "b", "c");
        later.publishAndTry(0, 0, 2);
        later.ask().cut(5);
        due("the third alone", later.ask().tick(), 1);
        due("it is decided", later.ask().state(2), 2);
    }

    private void room() {
        sentence("The STORE has room for 200 words; records are put into it one behind the other.");
        for (Change change : CHANGES) {
            Talk fitting = change.start.get().fill(ROOM - change.words);
            dueChange(" that just fits", change, fitting, 0, true);
        }
        sentence("-5 if the store has no room for it");
        for (Change change : CHANGES) {
            Talk full = change.start.get().fill(ROOM - change.words + 1);
            full.ask().cut(0);
            dueChange(" of a word too much", change, full, -5, false);
            due("no crash", full.ask().nonce() < 1000, true);
        }
    }

    private void crashes() {
        nothingUnderTrial();
        noNonceGood();
        allElseStays();
    }

    private void nothingUnderTrial() {
        sentence("A CRASH: nothing is under trial any more");
        Talk talk = Talk.tried(7, 0, "a", "b", "c");
        talk.ask().crash();
        for (int i = 0; i < 3; i++) {
            due("not under trial", talk.ask().state(i), 0);
        }
        due("nothing is decided", talk.ask().tick(), 0);
        talk.attempt(0, 0, 1, 0);
        due("tried again", talk.ask().tick(), 1);
        Talk cutting = Talk.tried(7, 0, "a", "b");
        cutting.ask().cut(0);
        cutting.open(1);
        due("not under trial, by a cut", cutting.ask().state(0), 0);
        due("not under trial, by a cut", cutting.ask().state(1), 0);
    }

    private void noNonceGood() {
        sentence("and no nonce given out before is good any more");
        Talk talk = new Talk(0);
        for (int i = 0; i < 3; i++) {
            talk.ask().nonce();
        }
        talk.ask().crash();
        for (int i = 0; i < 3; i++) {
            due("nonce " + i, talk.ask().request(0, i, -1, 0), -2);
        }
        int nonce = talk.ask().nonce();
        talk.ask().cut(3);
        talk.open(0);
        due("nonce " + nonce + ", after a cut", talk.ask().request(0, nonce, -1, 0), -2);
        talk.ask().crash();
        due("after two crashes and a cut", talk.ask().nonce(), 3000);
    }

    private void allElseStays() {
        sentence("all else stays, as the records in the store say (NOW, the network, the client's text and latest "
            + "signature in any case)");
        Talk talk = Talk.certified(0, 0, "a");
        talk.revoke(0, 0, 0, 4);
        talk.open(2);
        talk.order(0, 0, "b");
        talk.ask().publish(1, 1, 0);
        talk.close(2, 1);
        int[] before = answers(talk);
        talk.write("{\"op\":");
        talk.ask().crash();
        int[] after = answers(talk);
        for (int i = 0; i < before.length; i++) {
            due("answer " + i, after[i], before[i]);
        }
        int nonce = talk.ask().nonce();
        talk.write("\"clo");
        talk.ask().request(0, nonce, 0, 0);
        due("the text", talk.ask().signature(), signatureOf(0, "{\"op\":\"clo", nonce, 0));
        due("the network", talk.ask().withdraw(1, 1), true);
        due("nothing more in the network", talk.ask().withdraw(1, 0), false);
        talk.ask().tick();
        due("NOW", talk.ask().state(0), 2);
        talk.ask().tick();
        due("NOW", talk.ask().state(0), 4);
    }

    private static int[] answers(Talk talk) {
        int[] answers = new int[25];
        int count = 0;
        answers[count++] = talk.ask().signature();
        answers[count++] = talk.ask().words();
        answers[count++] = talk.ask().listing();
        answers[count++] = talk.ask().octet(0, 27);
        for (int i = 0; i < 3; i++) {
            answers[count++] = talk.ask().account(i);
            answers[count++] = talk.ask().order(i);
            answers[count++] = talk.ask().authorization(i, 0);
            answers[count++] = talk.ask().state(i);
            answers[count++] = talk.ask().token(i);
            answers[count++] = talk.ask().serial(i);
            answers[count++] = talk.ask().standing(i);
        }
        return answers;
    }

    private void cuts() {
        cutShorter();
        cutLongEnough();
        noCutAnyMore();
        recordWithoutRoom();
        noRecord();
    }

    private void cutShorter() {
        sentence("if it has more words than the cut says, it does not get into the store, and the change is not made");
        for (Change change : CHANGES) {
            for (int cut : new int[] {0, 1, change.words - 1}) {
                dueCut(change, cut, false);
            }
        }
    }

    private void cutLongEnough() {
        sentence("else it does, and the change is made");
        for (Change change : CHANGES) {
            for (int cut : new int[] {change.words, change.words + 1, MOST}) {
                dueCut(change, cut, true);
            }
        }
    }

    private void dueCut(Change change, int cut, boolean made) {
        Talk talk = change.start.get();
        talk.ask().cut(cut);
        dueChange(", cut at " + cut, change, talk, -6, made);
    }

    private void noCutAnyMore() {
        sentence("in both cases the desk crashes then, and no cut is set any more");
        for (Change change : CHANGES) {
            for (int over = -1; over <= 0; over++) {
                Talk talk = change.start.get();
                talk.ask().cut(change.words + over);
                change.call.applyAsInt(talk);
                due(change.name + ": one crash", talk.ask().nonce(), 1000);
                due("the next record is not cut", talk.open(3) >= 0, true);
                due("no crash more", talk.ask().nonce(), 1002);
            }
        }
    }

    private void recordWithoutRoom() {
        sentence("the next record that the store has room for is CUT (one, also with 0 words)");
        Talk talk = Talk.ordered(7, 0, "a").fill(ROOM - 4);
        talk.attempt(0, 0, 0, 0);
        talk.ask().cut(0);
        due("a record of 8 words, without room", talk.order(0, 0, "b"), -5);
        due("a record of 5 words, without room", talk.ask().tick(), 0);
        due("no crash", talk.ask().nonce() < 1000, true);
        due("a record of 3 words, with room", talk.open(1), -6);
        due("words", talk.ask().words(), ROOM - 4);
        due("the next record of 3 words", talk.open(1), 1);
    }

    private void noRecord() {
        sentence("When a cut is set (by cut), the next record");
        Talk talk = Talk.ordered(7, 0, "a");
        talk.ask().cut(2);
        due("new of a known key", talk.open(0), 0);
        due("try", talk.attempt(0, 0, 0, 0), 0);
        due("refused", talk.close(0, -1), -4);
        due("not read", talk.send(0, 0, "{}"), -1);
        due("not signed for WHO", talk.close(1, 0), -3);
        talk.ask().publish(0, 0, 0);
        talk.ask().withdraw(0, 0);
        due("no crash", talk.ask().nonce(), 7);
        due("the record", talk.close(0, 0), -6);
        due("not closed", talk.ask().account(0), 0);
    }
}
