import java.io.ByteArrayOutputStream;
import java.math.BigInteger;
import java.nio.charset.StandardCharsets;
import java.util.List;

/** The document's arithmetic by the Java library, to compare the class with. */
final class Reference {
    static final int[][] CLIENT_KEYS = {{101, 113, 3}, {211, 223, 11}, {1009, 1013, 5}, {10007, 10009, 7}};
    static final int[] DESK_KEY = {32749, 32719, 65537};

    private Reference() {
    }

    static int digest(byte[] octets) {
        BigInteger digest = BigInteger.valueOf(7);
        for (byte octet : octets) {
            digest = digest.multiply(BigInteger.valueOf(263)).add(BigInteger.valueOf(octet & 255))
                .mod(BigInteger.valueOf(2147483647));
        }
        return digest.intValueExact();
    }

    static int digest(String text) {
        return digest(text.getBytes(StandardCharsets.ISO_8859_1));
    }

    static int modulus(int[] key) {
        return key[0] * key[1];
    }

    static int sign(int[] key, int digest) {
        BigInteger order = BigInteger.valueOf(key[0] - 1).multiply(BigInteger.valueOf(key[1] - 1));
        BigInteger secret = BigInteger.valueOf(key[2]).modInverse(order);
        return BigInteger.valueOf(digest).modPow(secret, BigInteger.valueOf(modulus(key))).intValueExact();
    }

    /** The remainder that the signature's power leaves: that of the digest, if it is the signature. */
    static int opened(int[] key, int signature) {
        return BigInteger.valueOf(signature).modPow(BigInteger.valueOf(key[2]), BigInteger.valueOf(modulus(key)))
            .intValueExact();
    }

    static int thumbprint(int[] key) {
        return digest(key[2] + ":" + modulus(key));
    }

    static int requestDigest(String text, int nonce, int who) {
        return digest(text + "|" + nonce + "|" + who);
    }

    static int token(String name, int number, int made) {
        return digest(name + "/" + number + "/" + made);
    }

    static int proof(int token, int key) {
        return digest(token + "." + thumbprint(CLIENT_KEYS[key]));
    }

    static byte[] certificate(int serial, int made, int key, List<String> names) {
        byte[][] parts = new byte[names.size()][];
        for (int i = 0; i < parts.length; i++) {
            parts[i] = tagged(130, names.get(i).getBytes(StandardCharsets.ISO_8859_1));
        }
        byte[] body = tagged(48, integer(serial), integer(made), integer(made + 20), integer(key), tagged(48, parts));
        int seal = sign(DESK_KEY, digest(body));
        byte[] sealed = {3, 5, 0, (byte) (seal >>> 24), (byte) (seal >>> 16), (byte) (seal >>> 8), (byte) seal};
        return tagged(48, body, sealed);
    }

    private static byte[] integer(int n) {
        return tagged(2, BigInteger.valueOf(n).toByteArray());
    }

    private static byte[] tagged(int tag, byte[]... parts) {
        ByteArrayOutputStream joined = new ByteArrayOutputStream();
        for (byte[] part : parts) {
            joined.writeBytes(part);
        }
        ByteArrayOutputStream all = new ByteArrayOutputStream();
        all.write(tag);
        all.write(joined.size());
        all.writeBytes(joined.toByteArray());
        return all.toByteArray();
    }
}
