import java.util.ArrayList;
import java.util.Collections;
import java.util.List;
import java.util.Random;

/** Runs of calls by chance (the same ones each time), each answer compared with the model's. */
public final class ModelTest {
    private static final int RUNS = 6000;
    private static final int MOST_CALLS = 512;
    private static final String[] SHORT_NAMES = {"a", "b", "c", "d.e", "f0"};
    private static final String[] LONG_NAMES = {"abcdefghijkl", "a.b.c.d.e.fg", "0123456789.x", "mail.example"};
    private static final String[] WRONG_NAMES = {"", ".a", "a.", "a..b", "A", "a b", "abcdefghijklm", "a-b", "a_"};
    private static final String NOISE = "{}[]\":,019 azop\\~.-";

    private final Checks checks;
    private final Random random;
    private final CertificateDesk desk;
    private final Model model;
    private final int run;
    private final List<Integer> nonces = new ArrayList<>();
    private final String[] names;
    private final int steadiness;
    private int calls = 0;

    private ModelTest(Checks checks, int run) {
        this.checks = checks;
        this.run = run;
        random = new Random(run);
        int life = random.nextInt(3) == 0 ? random.nextInt() : 4 + random.nextInt(4);
        desk = new CertificateDesk(life);
        model = new Model(life);
        names = random.nextInt(3) == 0 ? LONG_NAMES : SHORT_NAMES;
        steadiness = 4 + random.nextInt(60);
    }

    public static void main(String[] arguments) {
        Checks checks = new Checks("ModelTest");
        for (int run = 0; run < RUNS && checks.allAsDue(); run++) {
            new ModelTest(checks, run).go();
        }
        checks.end();
    }

    private void go() {
        int acting = 400 + random.nextInt(80);
        send(random.nextInt(4), -1, "{\"op\":\"new\"}");
        for (int i = 0; i < MOST_CALLS && calls < acting && checks.allAsDue(); i++) {
            act();
        }
        askAround();
    }

    private void act() {
        switch (random.nextInt(12)) {
            case 0, 1, 2, 3 -> goOn();
            case 4 -> order();
            case 5 -> same("tick()", desk::tick, model::tick);
            case 6 -> publish(random.nextInt(4) - 1, random.nextInt(26) - 1, random.nextInt(6) - 1);
            case 7 -> randomRequest();
            case 8 -> disturb();
            default -> ask(random.nextInt(13));
        }
    }

    private boolean rarely() {
        return random.nextInt(steadiness) == 0;
    }

    /** Takes an authorization, order or certificate a step further, if there is one that can be. */
    private void goOn() {
        Model.Knowledge known = model.known();
        for (int i = 0; i < known.orders.size(); i++) {
            if (model.order(i) == 1 && random.nextBoolean()) {
                finish(known, i);
                return;
            }
        }
        boolean trying = false;
        for (int i = 0; i < known.authorizations.size(); i++) {
            Model.Authorization authorization = known.authorizations.get(i);
            int key = known.accounts.get(authorization.account).key;
            if (model.state(i) == 0 && random.nextInt(3) != 0) {
                int way = random.nextInt(2);
                publish(way, i, rarely() ? random.nextInt(4) : key);
                send(key, authorization.account, "{\"op\":\"try\",\"auth\":" + i + ",\"way\":" + way + "}");
                return;
            }
            trying = trying || model.state(i) == 1;
        }
        if (trying) {
            same("tick()", desk::tick, model::tick);
        } else {
            order();
        }
    }

    private void finish(Model.Knowledge known, int order) {
        List<String> asked = new ArrayList<>();
        for (int part : known.orders.get(order).authorizations) {
            asked.add(known.authorizations.get(part).name);
        }
        Collections.shuffle(asked, random);
        if (rarely()) {
            asked.add(asked.get(0));
        }
        if (rarely()) {
            asked.set(0, asked.get(asked.size() - 1));
        }
        int key = random.nextInt(4) == 0 ? random.nextInt(6) : random.nextInt(1 << random.nextInt(30));
        int account = known.orders.get(order).account;
        send(known.accounts.get(account).key, account,
            "{\"op\":\"finish\",\"order\":" + order + ",\"csr\":{\"key\":" + key
                + ",\"names\":" + quoted(asked) + "}}");
    }

    private static String quoted(List<String> parts) {
        return parts.isEmpty() ? "[]" : "[\"" + String.join("\",\"", parts) + "\"]";
    }

    private int anAccount() {
        int accounts = model.known().accounts.size();
        return accounts == 0 || rarely() ? random.nextInt(4) - 1 : random.nextInt(accounts);
    }

    private int keyOf(int account) {
        List<Model.Account> accounts = model.known().accounts;
        return account < 0 || account >= accounts.size() || rarely() ? random.nextInt(4) : accounts.get(account).key;
    }

    private void order() {
        List<String> asked = new ArrayList<>();
        int count = rarely() ? random.nextInt(5) : 1 + random.nextInt(3);
        List<String> pool = new ArrayList<>(List.of(names));
        Collections.shuffle(pool, random);
        for (int i = 0; i < count; i++) {
            asked.add(rarely() ? WRONG_NAMES[random.nextInt(WRONG_NAMES.length)] : pool.get(i % pool.size()));
        }
        if (rarely() && !asked.isEmpty()) {
            asked.set(0, asked.get(asked.size() - 1));
        }
        int account = anAccount();
        send(keyOf(account), account, "{\"op\":\"order\",\"names\":" + quoted(asked) + "}");
    }

    private void randomRequest() {
        int account = anAccount();
        int key = keyOf(account);
        int number = random.nextInt(3) == 0 ? random.nextInt(30) : random.nextInt(3);
        switch (random.nextInt(8)) {
            case 0 -> send(random.nextInt(4), -1, "{\"op\":\"new\"}");
            case 1 -> send(key, account, "{\"op\":\"new\"}");
            case 2 -> send(key, account, "{\"op\":\"try\",\"auth\":" + number + ",\"way\":" + random.nextInt(3) + "}");
            case 3, 4 -> send(key, account,
                "{\"op\":\"revoke\",\"why\":" + random.nextInt(13) + ",\"serial\":" + number + "}");
            case 5 -> send(key, account, "{\"z\":[[[" + noise() + "]]],\"op\":\"new\"}");
            case 6 -> send(key, account, noise());
            default -> send(key, account, rarely() ? "{\"op\":\"close\"}" : "{\"op\":\"clos\"}");
        }
    }

    private String noise() {
        StringBuilder noise = new StringBuilder();
        int length = random.nextInt(6);
        for (int i = 0; i < length; i++) {
            noise.append(NOISE.charAt(random.nextInt(NOISE.length())));
        }
        return noise.toString();
    }

    private void disturb() {
        switch (random.nextInt(6)) {
            case 0 -> {
                if (rarely()) {
                    callBoth();
                    desk.crash();
                    model.crash();
                }
            }
            case 1 -> {
                int n = random.nextInt(2) == 0 ? random.nextInt(7) - 1 : random.nextInt(60);
                if (random.nextInt(3) == 0) {
                    same("cut(" + n + ")", () -> desk.cut(n) ? 1 : 0, () -> model.cut(n) ? 1 : 0);
                }
            }
            case 2 -> write((char) (random.nextBoolean() ? random.nextInt(130) : random.nextInt(65536)));
            case 3 -> {
                int key = random.nextBoolean() ? -1 : 4;
                same("request(" + key + ")", () -> desk.request(key, 0, -1, 0), () -> model.request(key, 0, -1, 0));
            }
            default -> {
                int way = random.nextInt(4) - 1;
                int number = random.nextInt(8) - 1;
                same("withdraw(" + way + ", " + number + ")", () -> desk.withdraw(way, number) ? 1 : 0,
                    () -> model.withdraw(way, number) ? 1 : 0);
            }
        }
    }

    private void publish(int way, int number, int key) {
        same("publish(" + way + ", " + number + ", " + key + ")", () -> desk.publish(way, number, key) ? 1 : 0,
            () -> model.publish(way, number, key) ? 1 : 0);
    }

    private void send(int key, int who, String text) {
        if (calls + text.length() + 3 > MOST_CALLS) {
            return;
        }
        for (int i = 0; i < text.length(); i++) {
            boolean slip = random.nextInt(60 * steadiness) == 0;
            write(slip ? NOISE.charAt(random.nextInt(NOISE.length())) : text.charAt(i));
        }
        nonces.add(same("nonce()", desk::nonce, model::nonce));
        int nonce = nonces.get(rarely() ? random.nextInt(nonces.size()) : nonces.size() - 1);
        int used = rarely() ? random.nextInt() >> random.nextInt(32) : nonce;
        int flip = rarely() ? 1 << random.nextInt(32) : 0;
        int sender = rarely() ? random.nextInt(7) - 3 : who;
        same("request(" + key + ", " + used + ", " + sender + ", " + flip + ") with " + text,
            () -> desk.request(key, used, sender, flip), () -> model.request(key, used, sender, flip));
    }

    private void write(char c) {
        same("write(" + (int) c + ")", () -> desk.write(c) ? 1 : 0, () -> model.write(c) ? 1 : 0);
    }

    private void ask(int what) {
        int n = random.nextInt(3) == 0 ? random.nextInt(27) - 1 : random.nextInt(5);
        int k = random.nextInt(5) - 1;
        int place = random.nextInt(80) - 2;
        switch (what) {
            case 0 -> same("signature()", desk::signature, model::signature);
            case 1 -> same("words()", desk::words, model::words);
            case 2 -> same("account(" + k + ")", () -> desk.account(k), () -> model.account(k));
            case 3, 4 -> same("order(" + n + ")", () -> desk.order(n), () -> model.order(n));
            case 5 -> same("authorization(" + n + ", " + k + ")", () -> desk.authorization(n, k),
                () -> model.authorization(n, k));
            case 6, 7 -> same("state(" + n + ")", () -> desk.state(n), () -> model.state(n));
            case 8 -> same("token(" + n + ")", () -> desk.token(n), () -> model.token(n));
            case 9 -> same("serial(" + n + ")", () -> desk.serial(n), () -> model.serial(n));
            case 10 -> same("octet(" + k + ", " + place + ")", () -> desk.octet(k, place),
                () -> model.octet(k, place));
            case 11 -> same("standing(" + k + ")", () -> desk.standing(k), () -> model.standing(k));
            default -> same("listing()", desk::listing, model::listing);
        }
    }

    private void askAround() {
        for (int i = calls; i < MOST_CALLS && checks.allAsDue(); i++) {
            ask(random.nextInt(13));
        }
    }

    private interface Call {
        int answer();
    }

    private boolean callBoth() {
        calls++;
        return calls <= MOST_CALLS;
    }

    private int same(String what, Call got, Call want) {
        if (!callBoth()) {
            return -1;
        }
        int due = want.answer();
        checks.due("run " + run + ", call " + calls + ": " + what, got.answer(), due);
        return due;
    }
}
