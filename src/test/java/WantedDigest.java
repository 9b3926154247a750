import java.math.BigInteger;
import java.util.Arrays;

/** Finds texts whose requests have a digest that is wanted, by going to the middle from both ends. */
final class WantedDigest {
    private static final long DIVISOR = 2147483647;
    private static final long FACTOR = 263;
    private static final int FIRST = 32;
    private static final int COUNT = 126 - FIRST + 1;
    private static final int TRIPLES = COUNT * COUNT * COUNT;
    private static final long INVERSE_FACTOR =
        BigInteger.valueOf(FACTOR).modInverse(BigInteger.valueOf(DIVISOR)).longValueExact();

    // The digest of each text of three characters, with the text's number in the lowest 20 bits.
    private final long[] starts = new long[TRIPLES];

    WantedDigest() {
        for (int i = 0; i < TRIPLES; i++) {
            starts[i] = behind(7, triple(i)) << 20 | i;
        }
        Arrays.sort(starts);
    }

    /** A text of six characters; with the nonce and WHO behind it, its digest is the one wanted. */
    String text(int digest, int nonce, int who) {
        long behindText = before(digest, "|" + nonce + "|" + who);
        for (int i = 0; i < TRIPLES; i++) {
            String end = triple(i);
            long middle = before(behindText, end);
            int at = Arrays.binarySearch(starts, middle << 20);
            int found = at < 0 ? -at - 1 : at;
            if (found < TRIPLES && starts[found] >> 20 == middle) {
                return triple((int) (starts[found] & (1 << 20) - 1)) + end;
            }
        }
        throw new IllegalStateException("no text of six characters has the digest " + digest);
    }

    private static String triple(int number) {
        char[] characters = {(char) (FIRST + number / COUNT / COUNT), (char) (FIRST + number / COUNT % COUNT),
            (char) (FIRST + number % COUNT)};
        return new String(characters);
    }

    private static long behind(long digest, String characters) {
        long result = digest;
        for (int i = 0; i < characters.length(); i++) {
            result = (FACTOR * result + characters.charAt(i)) % DIVISOR;
        }
        return result;
    }

    /** The digest to which the characters must be added for this one to come out. */
    private static long before(long digest, String characters) {
        long result = digest;
        for (int i = characters.length() - 1; i >= 0; i--) {
            result = (result + DIVISOR - characters.charAt(i)) % DIVISOR * INVERSE_FACTOR % DIVISOR;
        }
        return result;
    }
}
