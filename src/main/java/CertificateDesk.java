import java.util.ArrayList;
import java.util.Arrays;

/** A desk that certifies keys for names, and the client who signs the requests to it. */
public final class CertificateDesk {
    public static final int NONE = -1;

    private static final int MALFORMED = -1;
    private static final int BAD_NONCE = -2;
    private static final int BAD_SIGNATURE = -3;
    private static final int REFUSED = -4;
    private static final int NO_ROOM = -5;
    private static final int CRASHED = -6;
    private static final int NO_KEY = -7;
    private static final int ADMITTED = 0;

    private static final int CLIENT_KEYS = 4;
    private static final int MOST_ORDERS = 12;
    private static final int MOST_AUTHORIZATIONS = 24;
    private static final int MOST_NAMES = 3;
    private static final int LEAST_CERTIFIED_KEY = 3;
    private static final int VALIDITY = 20;

    private static final int ACCOUNT_WORDS = 3;
    private static final int ORDER_WORDS = 5;
    private static final int KNOWN_NAME_WORDS = 1;
    private static final int NEW_NAME_WORDS = 2;
    private static final int CERTIFICATE_WORDS = 5;
    private static final int REVOKE_WORDS = 4;
    private static final int CLOSE_WORDS = 3;
    private static final int DECISION_WORDS = 5;

    private static final int CLOSED_MARK = 8;
    private static final int REVOKED_MARK = 100;
    private static final int HIGHEST_REASON = 10;
    private static final int UNUSED_REASON = 7;

    private static final int WAITING = 0;
    private static final int ON_TRIAL = 1;
    private static final int PROVED = 2;
    private static final int FAILED = 3;
    private static final int EXPIRED = 4;

    private static final int PENDING = 0;
    private static final int READY = 1;
    private static final int CERTIFIED = 2;
    private static final int INVALID = 3;

    private final int life;
    private final Key[] clientKeys;
    private final Key deskKey;
    private final Notation text;
    private final int[] starts;
    private final Nonces nonces;
    private final Store store;
    private final int[] network;
    private final ArrayList<Account> accounts;
    private final ArrayList<Order> orders;
    private final ArrayList<Authorization> authorizations;
    private final ArrayList<Certificate> certificates;
    private int now;
    private int latestSignature;

    public CertificateDesk(int life) {
        this.life = 2 + (life & 7);
        clientKeys = new Key[CLIENT_KEYS];
        clientKeys[0] = new Key(0, 101 * 113, 3, 1867);
        clientKeys[1] = new Key(1, 211 * 223, 11, 5651);
        clientKeys[2] = new Key(2, 1009 * 1013, 5, 51005);
        clientKeys[3] = new Key(3, 10007 * 10009, 7, 35764303);
        deskKey = new Key(NONE, 32749 * 32719, 65537, 100089869);
        text = new Notation();
        starts = new int[Notation.MOST_STRINGS];
        nonces = new Nonces();
        store = new Store();
        network = new int[2 * MOST_AUTHORIZATIONS];
        Arrays.fill(network, NONE);
        accounts = new ArrayList<Account>();
        orders = new ArrayList<Order>();
        authorizations = new ArrayList<Authorization>();
        certificates = new ArrayList<Certificate>();
        now = 0;
        latestSignature = 0;
    }

    public boolean write(char c) {
        return text.append(c);
    }

    public int nonce() {
        return nonces.give();
    }

    public int request(int key, int nonce, int who, int flip) {
        Key signer = clientKey(key);
        int answer = NO_KEY;
        if (signer != null) {
            answer = admit(signer, nonce, who, flip);
            if (answer == ADMITTED) {
                answer = perform(signer, accountAt(who));
            }
        }
        text.clear();
        return answer;
    }

    public int signature() {
        return latestSignature;
    }

    public boolean publish(int way, int authorization, int key) {
        Authorization wanted = authorizationAt(authorization);
        Key signer = clientKey(key);
        if (!isWay(way) || wanted == null || signer == null) {
            return false;
        }
        network[slot(way, wanted)] = wanted.proof(signer);
        return true;
    }

    public boolean withdraw(int way, int authorization) {
        Authorization wanted = authorizationAt(authorization);
        if (!isWay(way) || wanted == null || network[slot(way, wanted)] == NONE) {
            return false;
        }
        network[slot(way, wanted)] = NONE;
        return true;
    }

    public int tick() {
        now++;
        int proved = 0;
        for (int i = 0; i < authorizations.size(); i++) {
            Authorization tried = authorizations.get(i);
            if (authorizationState(tried) != ON_TRIAL) {
                continue;
            }
            boolean found = isProofPublished(tried);
            Fate fate = keep(DECISION_WORDS);
            tried.trialWay = NONE;
            if (fate.change) {
                tried.decide(found, now);
                proved += found ? 1 : 0;
            }
            if (fate.crash) {
                return proved;
            }
        }
        return proved;
    }

    public boolean cut(int n) {
        if (n < 0) {
            return false;
        }
        store.cut = n;
        return true;
    }

    public void crash() {
        nonces.forget();
        for (int i = 0; i < authorizations.size(); i++) {
            authorizations.get(i).trialWay = NONE;
        }
    }

    public int words() {
        return store.used;
    }

    public int account(int account) {
        Account wanted = accountAt(account);
        if (wanted == null) {
            return NONE;
        }
        return wanted.closed ? wanted.key.number + CLOSED_MARK : wanted.key.number;
    }

    public int order(int order) {
        Order wanted = orderAt(order);
        return wanted == null ? NONE : orderState(wanted);
    }

    public int authorization(int order, int k) {
        Order wanted = orderAt(order);
        if (wanted == null || k < 0 || k >= wanted.parts.size()) {
            return NONE;
        }
        return wanted.parts.get(k).number;
    }

    public int state(int authorization) {
        Authorization wanted = authorizationAt(authorization);
        return wanted == null ? NONE : authorizationState(wanted);
    }

    public int token(int authorization) {
        Authorization wanted = authorizationAt(authorization);
        return wanted == null ? NONE : wanted.tokenDigest();
    }

    public int serial(int order) {
        Order wanted = orderAt(order);
        return wanted == null ? NONE : wanted.certificate;
    }

    public int octet(int serial, int k) {
        Certificate wanted = certificateAt(serial);
        if (wanted == null) {
            return NONE;
        }
        return k == -1 ? wanted.octets.size : wanted.octets.at(k);
    }

    public int standing(int serial) {
        Certificate wanted = certificateAt(serial);
        if (wanted == null) {
            return NONE;
        }
        if (wanted.reason != NONE) {
            return REVOKED_MARK + wanted.reason;
        }
        return now - wanted.made >= VALIDITY ? 1 : 0;
    }

    public int listing() {
        int digest = Digest.EMPTY;
        for (int i = 0; i < certificates.size(); i++) {
            Certificate listed = certificates.get(i);
            if (listed.reason != NONE) {
                digest = Digest.with(Digest.with(digest, i), listed.reason);
            }
        }
        return deskKey.sign(digest);
    }

    private Key clientKey(int key) {
        return key >= 0 && key < CLIENT_KEYS ? clientKeys[key] : null;
    }

    private Account accountAt(int number) {
        return number >= 0 && number < accounts.size() ? accounts.get(number) : null;
    }

    private Order orderAt(int number) {
        return number >= 0 && number < orders.size() ? orders.get(number) : null;
    }

    private Authorization authorizationAt(int number) {
        return number >= 0 && number < authorizations.size() ? authorizations.get(number) : null;
    }

    private Certificate certificateAt(int serial) {
        return serial >= 0 && serial < certificates.size() ? certificates.get(serial) : null;
    }

    private static boolean isWay(int way) {
        return way == 0 || way == 1;
    }

    private static int slot(int way, Authorization named) {
        return way * MOST_AUTHORIZATIONS + named.place;
    }

    private boolean isProofPublished(Authorization tried) {
        return isWay(tried.trialWay)
            && network[slot(tried.trialWay, tried)] == tried.proof(tried.owner.key);
    }

    private int authorizationState(Authorization asked) {
        if (asked.owner.closed || asked.decision == FAILED) {
            return FAILED;
        }
        if (now - asked.since >= life) {
            return EXPIRED;
        }
        if (asked.decision == PROVED) {
            return PROVED;
        }
        return asked.trialWay == NONE ? WAITING : ON_TRIAL;
    }

    private int orderState(Order asked) {
        if (asked.certificate != NONE) {
            return CERTIFIED;
        }
        if (now - asked.made >= 2 * life) {
            return INVALID;
        }
        boolean allProved = true;
        for (int i = 0; i < asked.parts.size(); i++) {
            int part = authorizationState(asked.parts.get(i));
            if (part == FAILED || part == EXPIRED) {
                return INVALID;
            }
            allProved = allProved && part == PROVED;
        }
        return allProved ? READY : PENDING;
    }

    /** The crash comes before the change is made, which is the same: no change touches a nonce or a trial. */
    private Fate keep(int words) {
        Fate fate = store.put(words);
        if (fate.crash) {
            crash();
        }
        return fate;
    }

    private int admit(Key signer, int nonce, int who, int flip) {
        int digest = requestDigest(nonce, who);
        latestSignature = signer.sign(digest);
        if (!nonces.spend(nonce)) {
            return BAD_NONCE;
        }
        Key claimed = who == NONE ? signer : openKey(accountAt(who));
        if (claimed == null || !claimed.verifies(latestSignature ^ flip, digest)) {
            return BAD_SIGNATURE;
        }
        return ADMITTED;
    }

    private int requestDigest(int nonce, int who) {
        int digest = Digest.withNumber(Digest.with(text.digest(), '|'), nonce);
        return Digest.withNumber(Digest.with(digest, '|'), who);
    }

    private static Key openKey(Account claimed) {
        return claimed == null || claimed.closed ? null : claimed.key;
    }

    /** The sender is null if WHO is -1. */
    private int perform(Key signer, Account sender) {
        if (!text.isObject()) {
            return MALFORMED;
        }
        int op = text.field(0, "op");
        if (text.spells(op, "new")) {
            return openAccount(signer, sender);
        }
        if (text.spells(op, "order")) {
            return placeOrder(sender);
        }
        if (text.spells(op, "try")) {
            return startTrial(sender);
        }
        if (text.spells(op, "finish")) {
            return finishOrder(sender);
        }
        if (text.spells(op, "revoke")) {
            return revokeCertificate(sender);
        }
        if (text.spells(op, "close")) {
            return closeAccount(sender);
        }
        return MALFORMED;
    }

    private int openAccount(Key signer, Account sender) {
        if (sender != null) {
            return REFUSED;
        }
        for (int i = 0; i < accounts.size(); i++) {
            Account known = accounts.get(i);
            if (known.key.number == signer.number) {
                return known.closed ? REFUSED : i;
            }
        }
        int number = accounts.size();
        Fate fate = keep(ACCOUNT_WORDS);
        if (fate.change) {
            accounts.add(new Account(signer));
        }
        return fate.answer(number);
    }

    private int placeOrder(Account sender) {
        int count = text.strings(text.field(0, "names"), starts);
        if (!areNames(count)) {
            return MALFORMED;
        }
        if (sender == null) {
            return REFUSED;
        }
        int words = ORDER_WORDS;
        int fresh = 0;
        for (int i = 0; i < count; i++) {
            if (provedPart(sender, starts[i]) == null) {
                fresh++;
                words += NEW_NAME_WORDS + text.stringLength(starts[i]);
            } else {
                words += KNOWN_NAME_WORDS;
            }
        }
        int number = orders.size();
        if (number >= MOST_ORDERS || authorizations.size() + fresh > MOST_AUTHORIZATIONS) {
            return NO_ROOM;
        }
        Fate fate = keep(words);
        if (fate.change) {
            orders.add(makeOrder(sender, count));
        }
        return fate.answer(number);
    }

    /** Looks at the strings whose places stand in the row of starts. */
    private boolean areNames(int count) {
        if (count < 1 || count > MOST_NAMES) {
            return false;
        }
        for (int i = 0; i < count; i++) {
            if (!text.isName(starts[i])) {
                return false;
            }
            for (int j = 0; j < i; j++) {
                if (text.areSame(starts[i], starts[j])) {
                    return false;
                }
            }
        }
        return true;
    }

    private Authorization provedPart(Account sender, int name) {
        for (int i = 0; i < authorizations.size(); i++) {
            Authorization known = authorizations.get(i);
            if (known.owner == sender && text.spells(name, known.name)
                && authorizationState(known) == PROVED) {
                return known;
            }
        }
        return null;
    }

    private Order makeOrder(Account sender, int count) {
        Order made = new Order(sender, now);
        for (int i = 0; i < count && i < starts.length; i++) {
            Authorization part = provedPart(sender, starts[i]);
            if (part == null) {
                String name = text.string(starts[i]);
                part = new Authorization(authorizations.size(), sender, name, now, placeOf(name));
                authorizations.add(part);
            }
            made.parts.add(part);
        }
        return made;
    }

    /** The network knows names, not authorizations: those of one name share the place of the first. */
    private int placeOf(String name) {
        for (int i = 0; i < authorizations.size(); i++) {
            if (authorizations.get(i).name.equals(name)) {
                return i;
            }
        }
        return authorizations.size();
    }

    private int startTrial(Account sender) {
        int number = text.number(text.field(0, "auth"));
        int way = text.number(text.field(0, "way"));
        if (number == NONE || !isWay(way)) {
            return MALFORMED;
        }
        Authorization wanted = authorizationAt(number);
        if (sender == null || wanted == null || wanted.owner != sender
            || authorizationState(wanted) != WAITING) {
            return REFUSED;
        }
        wanted.trialWay = way;
        return 0;
    }

    private int finishOrder(Account sender) {
        int number = text.number(text.field(0, "order"));
        int csr = text.field(0, "csr");
        int key = text.number(text.field(csr, "key"));
        int count = text.strings(text.field(csr, "names"), starts);
        if (number == NONE || key == NONE || count == NONE) {
            return MALFORMED;
        }
        Order wanted = orderAt(number);
        if (sender == null || wanted == null || wanted.owner != sender
            || orderState(wanted) != READY || key < LEAST_CERTIFIED_KEY
            || !areNamesOf(wanted, count)) {
            return REFUSED;
        }
        int serial = certificates.size();
        Fate fate = keep(CERTIFICATE_WORDS);
        if (fate.change) {
            certificates.add(new Certificate(wanted.owner, now, certify(wanted, serial, key)));
            wanted.certificate = serial;
        }
        return fate.answer(serial);
    }

    /** An order's names all differ: as many strings as names, with each name among them, are each once there. */
    private boolean areNamesOf(Order wanted, int count) {
        if (count != wanted.parts.size()) {
            return false;
        }
        for (int i = 0; i < wanted.parts.size(); i++) {
            if (!isAmongStrings(wanted.parts.get(i).name, count)) {
                return false;
            }
        }
        return true;
    }

    private boolean isAmongStrings(String name, int count) {
        for (int i = 0; i < count && i < starts.length; i++) {
            if (text.spells(starts[i], name)) {
                return true;
            }
        }
        return false;
    }

    private Octets certify(Order certified, int serial, int key) {
        Octets octets = new Octets();
        int whole = octets.openRow();
        int body = octets.openRow();
        octets.putInteger(serial);
        octets.putInteger(now);
        octets.putInteger(now + VALIDITY);
        octets.putInteger(key);
        int names = octets.openRow();
        for (int i = 0; i < certified.parts.size(); i++) {
            octets.putName(certified.parts.get(i).name);
        }
        octets.closeRow(names);
        octets.closeRow(body);
        octets.putSeal(deskKey.sign(octets.digestFrom(body)));
        octets.closeRow(whole);
        return octets;
    }

    private int revokeCertificate(Account sender) {
        int serial = text.number(text.field(0, "serial"));
        int why = text.number(text.field(0, "why"));
        if (serial == NONE || why == NONE) {
            return MALFORMED;
        }
        Certificate wanted = certificateAt(serial);
        if (sender == null || wanted == null || wanted.owner != sender
            || wanted.reason != NONE || why > HIGHEST_REASON || why == UNUSED_REASON) {
            return REFUSED;
        }
        Fate fate = keep(REVOKE_WORDS);
        if (fate.change) {
            wanted.reason = why;
        }
        return fate.answer(0);
    }

    private int closeAccount(Account sender) {
        if (sender == null) {
            return REFUSED;
        }
        Fate fate = keep(CLOSE_WORDS);
        if (fate.change) {
            sender.closed = true;
        }
        return fate.answer(0);
    }

    /** Digests are carried on as numbers, so that no text has to be made to be digested. */
    private static final class Digest {
        static final int EMPTY = 7;
        private static final long FACTOR = 263;
        private static final long DIVISOR = 2147483647;
        private static final int MOST_DIGITS = 10;

        static int with(int digest, int octet) {
            return (int) ((FACTOR * digest + octet) % DIVISOR);
        }

        static int withText(int digest, String text) {
            int result = digest;
            for (int i = 0; i < text.length(); i++) {
                result = with(result, text.charAt(i));
            }
            return result;
        }

        static int withNumber(int digest, int number) {
            int result = number < 0 ? with(digest, '-') : digest;
            // The least int has no positive counterpart among the ints.
            long left = number < 0 ? -(long) number : number;
            long unit = 1;
            for (int i = 1; i < MOST_DIGITS && unit * 10 <= left; i++) {
                unit *= 10;
            }
            for (int i = 0; i < MOST_DIGITS && unit > 0; i++) {
                result = with(result, '0' + (int) (left / unit % 10));
                unit /= 10;
            }
            return result;
        }
    }

    private static final class Key {
        final int number;
        private final int modulus;
        private final int exponent;
        // The inverse of the exponent by the least common multiple of p - 1 and q - 1.
        private final int secret;

        Key(int number, int modulus, int exponent, int secret) {
            this.number = number;
            this.modulus = modulus;
            this.exponent = exponent;
            this.secret = secret;
        }

        int thumbprint() {
            int digest = Digest.withNumber(Digest.EMPTY, exponent);
            return Digest.withNumber(Digest.with(digest, ':'), modulus);
        }

        int sign(int digest) {
            return power(digest, secret);
        }

        boolean verifies(int sent, int digest) {
            return sent >= 0 && sent < modulus && power(sent, exponent) == power(digest, 1);
        }

        private int power(int base, int times) {
            if (modulus <= 0) {
                return NONE;
            }
            long result = 1;
            long square = base % modulus;
            for (int left = times; left > 0; left >>= 1) {
                if ((left & 1) == 1) {
                    result = result * square % modulus;
                }
                square = square * square % modulus;
            }
            return (int) result;
        }
    }

    /** The text of the client's request; a value of it is known by the place where it begins. */
    private static final class Notation {
        static final int MOST_STRINGS = 32;
        private static final int MOST_CHARACTERS = 96;
        private static final int MOST_DEPTH = 4;
        private static final int MOST_DIGITS = 9;
        private static final int LONGEST_NAME = 12;

        private final char[] characters = new char[MOST_CHARACTERS];
        private int length = 0;

        boolean append(char c) {
            if (length >= MOST_CHARACTERS || c < 32 || c > 126) {
                return false;
            }
            characters[length] = c;
            length++;
            return true;
        }

        void clear() {
            length = 0;
        }

        int digest() {
            int digest = Digest.EMPTY;
            for (int i = 0; i < length; i++) {
                digest = Digest.with(digest, characters[i]);
            }
            return digest;
        }

        boolean isObject() {
            return has(0, '{') && endOfValue(0, 0) == length;
        }

        /** Where the field's value begins; the text is a value, and what begins at the place one of its values. */
        int field(int object, String name) {
            if (!has(object, '{')) {
                return NONE;
            }
            int member = object + 1;
            for (int i = 0; i < MOST_CHARACTERS && has(member, '"'); i++) {
                int value = endOfString(member) + 1;
                if (spells(member, name)) {
                    return value;
                }
                int end = endOfValue(value, 0);
                if (!has(end, ',')) {
                    return NONE;
                }
                member = end + 1;
            }
            return NONE;
        }

        /** Puts down where an array's strings begin, and answers how many; NONE if it is no array of strings. */
        int strings(int array, int[] begins) {
            if (!has(array, '[')) {
                return NONE;
            }
            if (has(array + 1, ']')) {
                return 0;
            }
            int at = array + 1;
            for (int count = 0; count < begins.length && has(at, '"'); count++) {
                begins[count] = at;
                int end = endOfString(at);
                if (has(end, ']')) {
                    return count + 1;
                }
                at = end + 1;
            }
            return NONE;
        }

        /** The number that begins at a place; NONE if none does. */
        int number(int at) {
            if (!hasDigit(at)) {
                return NONE;
            }
            int value = 0;
            for (int i = at; i < at + MOST_DIGITS && hasDigit(i); i++) {
                value = 10 * value + (characters[i] - '0');
            }
            return value;
        }

        boolean spells(int string, String wanted) {
            int count = wanted.length();
            if (!has(string, '"') || !has(string + 1 + count, '"')) {
                return false;
            }
            for (int i = 0; i < count; i++) {
                if (!has(string + 1 + i, wanted.charAt(i))) {
                    return false;
                }
            }
            return true;
        }

        boolean areSame(int one, int other) {
            int count = stringLength(one);
            if (count < 0 || count != stringLength(other)) {
                return false;
            }
            for (int i = 1; i <= count; i++) {
                if (characters[one + i] != characters[other + i]) {
                    return false;
                }
            }
            return true;
        }

        boolean isName(int string) {
            int count = stringLength(string);
            if (count < 1 || count > LONGEST_NAME) {
                return false;
            }
            // The quotes round the string count as dots: so no dot may stand first, last or beside a dot.
            boolean afterDot = true;
            for (int i = 1; i <= count; i++) {
                char c = characters[string + i];
                boolean dot = c == '.';
                boolean letter = (c >= 'a' && c <= 'z') || (c >= '0' && c <= '9');
                if (!letter && (!dot || afterDot)) {
                    return false;
                }
                afterDot = dot;
            }
            return !afterDot;
        }

        /** How many characters a string has between its quotes; NONE if none begins there. */
        int stringLength(int string) {
            int end = endOfString(string);
            return end == NONE ? NONE : end - string - 2;
        }

        String string(int string) {
            StringBuilder made = new StringBuilder();
            int end = endOfString(string);
            for (int i = string + 1; i < end - 1; i++) {
                made.append(characters[i]);
            }
            return made.toString();
        }

        private boolean has(int at, char c) {
            return at >= 0 && at < length && characters[at] == c;
        }

        private boolean hasDigit(int at) {
            return at >= 0 && at < length && characters[at] >= '0' && characters[at] <= '9';
        }

        /** The place behind the value that begins at a place inside so many arrays and objects; NONE if none does. */
        private int endOfValue(int at, int depth) {
            if (has(at, '"')) {
                return endOfString(at);
            }
            if (has(at, '[')) {
                return endOfParts(at, ']', depth + 1);
            }
            if (has(at, '{')) {
                return endOfParts(at, '}', depth + 1);
            }
            return endOfNumber(at);
        }

        private int endOfParts(int at, char last, int depth) {
            if (depth > MOST_DEPTH) {
                return NONE;
            }
            int next = at + 1;
            if (has(next, last)) {
                return next + 1;
            }
            for (int i = 0; i < MOST_CHARACTERS; i++) {
                if (last == '}') {
                    int colon = endOfString(next);
                    if (!has(colon, ':')) {
                        return NONE;
                    }
                    next = colon + 1;
                }
                next = endOfValue(next, depth);
                if (has(next, last)) {
                    return next + 1;
                }
                if (!has(next, ',')) {
                    return NONE;
                }
                next++;
            }
            return NONE;
        }

        private int endOfString(int at) {
            if (!has(at, '"')) {
                return NONE;
            }
            for (int i = at + 1; i < length && characters[i] != '\\'; i++) {
                if (characters[i] == '"') {
                    return i + 1;
                }
            }
            return NONE;
        }

        private int endOfNumber(int at) {
            if (!hasDigit(at)) {
                return NONE;
            }
            if (has(at, '0')) {
                return at + 1;
            }
            int end = at + 1;
            for (int i = 1; i < MOST_DIGITS && hasDigit(end); i++) {
                end++;
            }
            return end;
        }
    }

    private static final class Nonces {
        private static final int STEP = 1000;
        // An object is used for at most 512 calls: there is a place for a nonce by each of them.
        private static final int MOST_NONCES = 512;

        private final boolean[] spent = new boolean[MOST_NONCES];
        private int first = 0;
        private int given = 0;

        int give() {
            int nonce = first + given;
            if (given < MOST_NONCES) {
                spent[given] = false;
                given++;
            }
            return nonce;
        }

        /** Whether the nonce was good; it is no longer then. */
        boolean spend(int nonce) {
            int place = nonce - first;
            if (place < 0 || place >= given || spent[place]) {
                return false;
            }
            spent[place] = true;
            return true;
        }

        void forget() {
            first += STEP;
            given = 0;
        }
    }

    private static final class Account {
        final Key key;
        boolean closed = false;

        Account(Key key) {
            this.key = key;
        }
    }

    private static final class Authorization {
        final int number;
        final Account owner;
        final String name;
        final int made;
        final int place;
        int decision = WAITING;
        // The tick when it was decided; when it was made, as long as it is undecided.
        int since;
        int trialWay = NONE;

        Authorization(int number, Account owner, String name, int made, int place) {
            this.number = number;
            this.owner = owner;
            this.name = name;
            this.made = made;
            this.place = place;
            since = made;
        }

        void decide(boolean proved, int tick) {
            decision = proved ? PROVED : FAILED;
            since = tick;
        }

        int tokenDigest() {
            int digest = Digest.with(Digest.withText(Digest.EMPTY, name), '/');
            digest = Digest.with(Digest.withNumber(digest, number), '/');
            return Digest.withNumber(digest, made);
        }

        int proof(Key key) {
            int digest = Digest.with(Digest.withNumber(Digest.EMPTY, tokenDigest()), '.');
            return Digest.withNumber(digest, key.thumbprint());
        }
    }

    private static final class Order {
        final Account owner;
        final int made;
        // The authorizations of its names, in the order of these.
        final ArrayList<Authorization> parts;
        int certificate = NONE;

        Order(Account owner, int made) {
            this.owner = owner;
            this.made = made;
            parts = new ArrayList<Authorization>();
        }
    }

    private static final class Certificate {
        final Account owner;
        final int made;
        final Octets octets;
        int reason = NONE;

        Certificate(Account owner, int made, Octets octets) {
            this.owner = owner;
            this.made = made;
            this.octets = octets;
        }
    }

    private static final class Octets {
        // No certificate has more than 72: three names of twelve characters, and a key's number of four octets.
        private static final int MOST_OCTETS = 80;
        private static final int INTEGER = 2;
        private static final int ROW = 48;
        private static final int NAME = 130;

        private final int[] octets = new int[MOST_OCTETS];
        int size = 0;

        int at(int k) {
            return k >= 0 && k < size ? octets[k] : NONE;
        }

        /** The place to close the row with: its number of octets is not known before. */
        int openRow() {
            int row = size;
            put(ROW);
            put(0);
            return row;
        }

        void closeRow(int row) {
            if (row >= 0 && row + 1 < size) {
                octets[row + 1] = size - row - 2;
            }
        }

        void putInteger(int n) {
            int count = 1;
            while (count < 4 && (n >> (8 * count - 1)) != 0) {
                count++;
            }
            put(INTEGER);
            put(count);
            putHighestFirst(n, count);
        }

        void putName(String name) {
            put(NAME);
            put(name.length());
            for (int i = 0; i < name.length(); i++) {
                put(name.charAt(i));
            }
        }

        void putSeal(int signature) {
            put(3);
            put(5);
            put(0);
            putHighestFirst(signature, 4);
        }

        int digestFrom(int first) {
            int digest = Digest.EMPTY;
            for (int i = first; i < size; i++) {
                digest = Digest.with(digest, at(i));
            }
            return digest;
        }

        private void putHighestFirst(int n, int count) {
            for (int i = count - 1; i >= 0; i--) {
                put((n >> (8 * i)) & 255);
            }
        }

        private void put(int octet) {
            if (size < MOST_OCTETS) {
                octets[size] = octet;
                size++;
            }
        }
    }

    /** What becomes of a record that is put into the store. */
    private enum Fate {
        FULL(false, false),
        LOST(false, true),
        SAVED(true, true),
        KEPT(true, false);

        final boolean change;
        final boolean crash;

        Fate(boolean change, boolean crash) {
            this.change = change;
            this.crash = crash;
        }

        int answer(int done) {
            if (crash) {
                return CRASHED;
            }
            return change ? done : NO_ROOM;
        }
    }

    private static final class Store {
        private static final int ROOM = 200;

        int used = 0;
        int cut = NONE;

        Fate put(int words) {
            if (used + words > ROOM) {
                return Fate.FULL;
            }
            boolean getsIn = cut == NONE || words <= cut;
            boolean isCut = cut != NONE;
            cut = NONE;
            if (!getsIn) {
                return Fate.LOST;
            }
            used += words;
            return isCut ? Fate.SAVED : Fate.KEPT;
        }
    }
}
