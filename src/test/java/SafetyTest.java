import java.util.Random;

/** No call throws, for any arguments in any state, also beyond the calls that the document bounds. */
public final class SafetyTest {
    private static final int OBJECTS = 40;
    private static final int CALLS = 20000;
    private static final String[] TEXTS = {"{\"op\":\"new\"}", "{\"op\":\"order\",\"names\":[\"a\",\"b.c\"]}",
        "{\"op\":\"try\",\"auth\":0,\"way\":0}", "{\"op\":\"try\",\"auth\":1,\"way\":0}",
        "{\"op\":\"finish\",\"order\":0,\"csr\":{\"key\":999999999,\"names\":[\"b.c\",\"a\"]}}",
        "{\"op\":\"revoke\",\"serial\":0,\"why\":1}", "{\"op\":\"close\"}", "{\"op\":", "{\"a\":[[[[[", "\"\\\""};

    private SafetyTest() {
    }

    public static void main(String[] arguments) {
        Checks checks = new Checks("SafetyTest");
        for (int seed = 0; seed < OBJECTS; seed++) {
            Random random = new Random(seed);
            CertificateDesk desk = new CertificateDesk(random.nextInt());
            for (int i = 0; i < CALLS; i++) {
                checks.due("object " + seed + ", call " + i + " throws", throwsBy(desk, random, seed), false);
            }
        }
        checks.end();
    }

    private static boolean throwsBy(CertificateDesk desk, Random random, int seed) {
        try {
            call(desk, random, seed);
            return false;
        } catch (RuntimeException thrown) {
            System.out.println(thrown);
            return true;
        }
    }

    private static int any(Random random) {
        return random.nextInt(4) == 0 ? random.nextInt() >> random.nextInt(32) : random.nextInt(5) - 1;
    }

    private static void call(CertificateDesk desk, Random random, int seed) {
        int a = any(random);
        int b = any(random);
        int c = any(random);
        switch (random.nextInt(24)) {
            case 0 -> desk.write((char) a);
            case 1 -> desk.nonce();
            case 2 -> desk.request(a, b, c, any(random));
            case 3 -> desk.signature();
            case 4 -> desk.publish(a, b, c);
            case 5 -> desk.withdraw(a, b);
            case 6 -> desk.tick();
            case 7 -> desk.cut(a);
            case 8 -> {
                if (random.nextInt(100) < seed) {
                    desk.crash();
                }
            }
            case 9 -> desk.words();
            case 10 -> desk.account(a);
            case 11 -> desk.order(a);
            case 12 -> desk.authorization(a, b);
            case 13 -> desk.state(a);
            case 14 -> desk.token(a);
            case 15 -> desk.serial(a);
            case 16 -> desk.octet(a, b);
            case 17 -> desk.standing(a);
            case 18 -> desk.listing();
            default -> send(desk, TEXTS[random.nextInt(random.nextInt(4) == 0 ? TEXTS.length : 6)], seed % 4);
        }
    }

    private static void send(CertificateDesk desk, String text, int key) {
        for (int i = 0; i < text.length(); i++) {
            desk.write(text.charAt(i));
        }
        desk.publish(0, 0, key);
        desk.publish(0, 1, key);
        desk.request(key, desk.nonce(), desk.account(0) == CertificateDesk.NONE ? -1 : 0, 0);
    }
}
