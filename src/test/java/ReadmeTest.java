import java.io.IOException;
import java.nio.charset.StandardCharsets;
import java.nio.file.Files;
import java.nio.file.Path;

/** What README.md says of the use of the class: each request of it is sent as it stands there. */
public final class ReadmeTest {
    private final Checks checks = new Checks("ReadmeTest");
    private final CertificateDesk desk = new CertificateDesk(3);
    private final String readme;

    private ReadmeTest(String readme) {
        this.readme = readme;
    }

    public static void main(String[] arguments) throws IOException {
        ReadmeTest test = new ReadmeTest(Files.readString(Path.of("README.md"), StandardCharsets.UTF_8));
        test.steps();
        test.face();
        test.checks.end();
    }

    private void steps() {
        write("{\"op\":\"new\"}", "\"{\\\"op\\\":\\\"new\\\"}\"");
        checks.due("new", desk.request(0, desk.nonce(), -1, 0), 0);
        checks.due("order", send("{\"op\":\"order\",\"names\":[\"a.b\",\"c\"]}"), 0);
        prove();
        checks.due("the order's state", desk.order(0), 1);
        checks.due("finish",
            send("{\"op\":\"finish\",\"order\":0,\"csr\":{\"key\":200,\"names\":[\"c\",\"a.b\"]}}"), 0);
        checks.due("octets of the certificate", desk.octet(0, desk.octet(0, -1) - 1) >= 0, true);
        int listing = desk.listing();
        checks.due("revoke", send("{\"op\":\"revoke\",\"serial\":0,\"why\":1}"), 0);
        checks.due("the certificate's standing", desk.standing(0), 101);
        checks.due("another listing", desk.listing() != listing, true);
        checks.due("close", send("{\"op\":\"close\"}"), 0);
        checks.due("the account", desk.account(0), 8);
    }

    /** The steps show the first try; the other name is tried alike. */
    private void prove() {
        for (int k = 0; k < 2; k++) {
            checks.due("publish", desk.publish(1, desk.authorization(0, k), 0), true);
        }
        checks.due("try", send("{\"op\":\"try\",\"auth\":0,\"way\":1}"), 0);
        write("{\"op\":\"try\",\"auth\":1,\"way\":1}", "");
        checks.due("the other try", desk.request(0, desk.nonce(), 0, 0), 0);
        checks.due("proved by the tick", desk.tick(), 2);
    }

    private void face() {
        String[] calls = {"write", "nonce", "request", "signature", "publish", "withdraw", "tick", "cut", "crash",
            "words", "account", "order", "authorization", "state", "token", "serial", "octet", "standing", "listing"};
        for (String call : calls) {
            boolean told = readme.contains("`" + call + "(") || readme.contains("desk." + call + "(");
            checks.due("README.md tells of " + call, told, true);
        }
    }

    private int send(String text) {
        write(text, "`" + text + "`");
        return desk.request(0, desk.nonce(), 0, 0);
    }

    private void write(String text, String toldAs) {
        checks.due("README.md has " + toldAs, readme.contains(toldAs), true);
        for (int i = 0; i < text.length(); i++) {
            checks.due("written", desk.write(text.charAt(i)), true);
        }
    }
}
