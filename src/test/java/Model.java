import java.util.ArrayList;
import java.util.HashMap;
import java.util.HashSet;
import java.util.List;
import java.util.Map;
import java.util.Set;
import java.util.function.Consumer;
import java.util.regex.Pattern;

/**
 * The document told a second time, by other means than the class: the store is a list of changes, and what the
 * desk knows is told from it anew whenever it is asked for; the notation is a pattern.
 */
final class Model {
    static final class Account {
        int key;
        boolean closed;
    }

    static final class Authorization {
        int account;
        String name;
        int made;
        Boolean proved;
        int since;
    }

    static final class Order {
        int account;
        int made;
        int certificate = -1;
        final List<Integer> authorizations = new ArrayList<>();
    }

    static final class Certificate {
        int order;
        int key;
        int made;
        int reason = -1;
    }

    static final class Knowledge {
        final List<Account> accounts = new ArrayList<>();
        final List<Authorization> authorizations = new ArrayList<>();
        final List<Order> orders = new ArrayList<>();
        final List<Certificate> certificates = new ArrayList<>();
    }

    private static final String STRING = "\"[ !#-\\[\\]-~]*\"";
    private static final String NUMBER = "(?:0|[1-9][0-9]{0,8})";
    private static final Pattern OBJECT = Pattern.compile(objectPattern(4));
    private static final Pattern NAME = Pattern.compile("(?=.{1,12}$)[a-z0-9]+(\\.[a-z0-9]+)*");

    final int life;
    private final List<Consumer<Knowledge>> changes = new ArrayList<>();
    private final Map<String, Integer> network = new HashMap<>();
    private final Map<Integer, Integer> trials = new HashMap<>();
    private final Set<Integer> good = new HashSet<>();
    private String text = "";
    private int now = 0;
    private int latest = 0;
    private int used = 0;
    private int cut = -1;
    private int crashes = 0;
    private int given = 0;

    Model(int life) {
        this.life = 2 + Math.floorMod(life, 8);
    }

    Knowledge known() {
        Knowledge known = new Knowledge();
        for (Consumer<Knowledge> change : changes) {
            change.accept(known);
        }
        return known;
    }

    boolean write(char c) {
        if (text.length() == 96 || c < ' ' || c > '~') {
            return false;
        }
        text += c;
        return true;
    }

    int nonce() {
        int nonce = 1000 * crashes + given++;
        good.add(nonce);
        return nonce;
    }

    int signature() {
        return latest;
    }

    int words() {
        return used;
    }

    boolean cut(int n) {
        cut = n < 0 ? cut : n;
        return n >= 0;
    }

    void crash() {
        crashes++;
        given = 0;
        good.clear();
        trials.clear();
    }

    int request(int key, int nonce, int who, int flip) {
        String sent = text;
        text = "";
        if (key < 0 || key > 3) {
            return -7;
        }
        int digest = Reference.requestDigest(sent, nonce, who);
        latest = Reference.sign(Reference.CLIENT_KEYS[key], digest);
        if (!good.remove(nonce)) {
            return -2;
        }
        Knowledge known = known();
        int claimed = key;
        if (who != -1) {
            if (who < 0 || who >= known.accounts.size() || known.accounts.get(who).closed) {
                return -3;
            }
            claimed = known.accounts.get(who).key;
        }
        if ((latest ^ flip) != Reference.sign(Reference.CLIENT_KEYS[claimed], digest)) {
            return -3;
        }
        if (!OBJECT.matcher(sent).matches()) {
            return -1;
        }
        Map<?, ?> object = (Map<?, ?>) new Reader(sent).value();
        return perform(known, object, key, who);
    }

    private int perform(Knowledge known, Map<?, ?> object, int key, int who) {
        Object op = object.get("op");
        boolean anonymous = who == -1;
        if ("new".equals(op)) {
            return anonymous ? performNew(known, key) : -4;
        }
        if ("order".equals(op)) {
            return performOrder(known, object, who);
        }
        if ("try".equals(op)) {
            return performTry(known, object, who);
        }
        if ("finish".equals(op)) {
            return performFinish(known, object, who);
        }
        if ("revoke".equals(op)) {
            return performRevoke(known, object, who);
        }
        if ("close".equals(op)) {
            return anonymous ? -4 : put(3, 0, later -> later.accounts.get(who).closed = true);
        }
        return -1;
    }

    private int performNew(Knowledge known, int key) {
        for (int i = 0; i < known.accounts.size(); i++) {
            if (known.accounts.get(i).key == key) {
                return known.accounts.get(i).closed ? -4 : i;
            }
        }
        return put(3, known.accounts.size(), later -> {
            Account account = new Account();
            account.key = key;
            later.accounts.add(account);
        });
    }

    private int performOrder(Knowledge known, Map<?, ?> object, int who) {
        List<String> names = strings(object.get("names"));
        if (names == null || names.isEmpty() || names.size() > 3 || new HashSet<>(names).size() != names.size()
            || !names.stream().allMatch(name -> NAME.matcher(name).matches())) {
            return -1;
        }
        if (who == -1) {
            return -4;
        }
        int size = 5;
        int next = known.authorizations.size();
        List<Integer> parts = new ArrayList<>();
        for (String name : names) {
            int part = -1;
            for (int i = known.authorizations.size() - 1; i >= 0; i--) {
                Authorization old = known.authorizations.get(i);
                part = old.account == who && old.name.equals(name) && state(known, i) == 2 ? i : part;
            }
            size += part == -1 ? 2 + name.length() : 1;
            parts.add(part == -1 ? next++ : part);
        }
        if (known.orders.size() == 12 || next > 24) {
            return -5;
        }
        int made = now;
        return put(size, known.orders.size(), later -> enterOrder(later, who, made, names, parts));
    }

    private static void enterOrder(Knowledge later, int who, int made, List<String> names, List<Integer> parts) {
        Order order = new Order();
        order.account = who;
        order.made = made;
        order.authorizations.addAll(parts);
        later.orders.add(order);
        for (int i = 0; i < names.size(); i++) {
            if (parts.get(i) == later.authorizations.size()) {
                Authorization authorization = new Authorization();
                authorization.account = who;
                authorization.name = names.get(i);
                authorization.made = made;
                later.authorizations.add(authorization);
            }
        }
    }

    private int performTry(Knowledge known, Map<?, ?> object, int who) {
        if (!(object.get("auth") instanceof Integer number) || !(object.get("way") instanceof Integer way) || way > 1) {
            return -1;
        }
        if (who == -1 || number >= known.authorizations.size() || known.authorizations.get(number).account != who
            || state(known, number) != 0) {
            return -4;
        }
        trials.put(number, way);
        return 0;
    }

    private int performFinish(Knowledge known, Map<?, ?> object, int who) {
        if (!(object.get("order") instanceof Integer number) || !(object.get("csr") instanceof Map<?, ?> csr)
            || !(csr.get("key") instanceof Integer key) || strings(csr.get("names")) == null) {
            return -1;
        }
        if (who == -1 || number >= known.orders.size() || known.orders.get(number).account != who
            || orderState(known, number) != 1 || key < 3) {
            return -4;
        }
        List<String> asked = new ArrayList<>(strings(csr.get("names")));
        List<String> due = new ArrayList<>(namesOf(known, number));
        asked.sort(null);
        due.sort(null);
        if (!asked.equals(due)) {
            return -4;
        }
        int made = now;
        int serial = known.certificates.size();
        return put(5, serial, later -> {
            Certificate certificate = new Certificate();
            certificate.order = number;
            certificate.key = key;
            certificate.made = made;
            later.certificates.add(certificate);
            later.orders.get(number).certificate = serial;
        });
    }

    private int performRevoke(Knowledge known, Map<?, ?> object, int who) {
        if (!(object.get("serial") instanceof Integer serial) || !(object.get("why") instanceof Integer why)) {
            return -1;
        }
        if (who == -1 || serial >= known.certificates.size() || why == 7 || why > 10) {
            return -4;
        }
        Certificate certificate = known.certificates.get(serial);
        if (known.orders.get(certificate.order).account != who || certificate.reason != -1) {
            return -4;
        }
        return put(4, 0, later -> later.certificates.get(serial).reason = why);
    }

    private int put(int size, int done, Consumer<Knowledge> change) {
        if (used + size > 200) {
            return -5;
        }
        boolean lost = cut >= 0 && size > cut;
        boolean crashing = cut >= 0;
        cut = -1;
        if (!lost) {
            used += size;
            changes.add(change);
        }
        if (crashing) {
            crash();
        }
        return crashing ? -6 : done;
    }

    int tick() {
        now++;
        int proved = 0;
        Knowledge known = known();
        for (int i = 0; i < known.authorizations.size(); i++) {
            if (state(known, i) != 1) {
                continue;
            }
            int number = i;
            int tick = now;
            Authorization tried = known.authorizations.get(i);
            Integer found = network.get(trials.remove(i) + " " + tried.name);
            int proof = Reference.proof(token(i), known.accounts.get(tried.account).key);
            boolean right = found != null && found == proof;
            int before = used;
            int answer = put(5, 0, later -> {
                later.authorizations.get(number).proved = right;
                later.authorizations.get(number).since = tick;
            });
            proved += right && used != before ? 1 : 0;
            if (answer == -6) {
                break;
            }
        }
        return proved;
    }

    boolean publish(int way, int authorization, int key) {
        Knowledge known = known();
        if ((way & ~1) != 0 || (key & ~3) != 0 || authorization < 0 || authorization >= known.authorizations.size()) {
            return false;
        }
        network.put(way + " " + known.authorizations.get(authorization).name,
            Reference.proof(token(authorization), key));
        return true;
    }

    boolean withdraw(int way, int authorization) {
        Knowledge known = known();
        if ((way & ~1) != 0 || authorization < 0 || authorization >= known.authorizations.size()) {
            return false;
        }
        return network.remove(way + " " + known.authorizations.get(authorization).name) != null;
    }

    int account(int account) {
        Knowledge known = known();
        if (account < 0 || account >= known.accounts.size()) {
            return -1;
        }
        return known.accounts.get(account).key + (known.accounts.get(account).closed ? 8 : 0);
    }

    int order(int order) {
        Knowledge known = known();
        return order < 0 || order >= known.orders.size() ? -1 : orderState(known, order);
    }

    int authorization(int order, int k) {
        Knowledge known = known();
        if (order < 0 || order >= known.orders.size() || k < 0 || k >= known.orders.get(order).authorizations.size()) {
            return -1;
        }
        return known.orders.get(order).authorizations.get(k);
    }

    int state(int authorization) {
        Knowledge known = known();
        return authorization < 0 || authorization >= known.authorizations.size() ? -1 : state(known, authorization);
    }

    int token(int authorization) {
        Knowledge known = known();
        if (authorization < 0 || authorization >= known.authorizations.size()) {
            return -1;
        }
        Authorization asked = known.authorizations.get(authorization);
        return Reference.token(asked.name, authorization, asked.made);
    }

    int serial(int order) {
        Knowledge known = known();
        return order < 0 || order >= known.orders.size() ? -1 : known.orders.get(order).certificate;
    }

    int octet(int serial, int k) {
        Knowledge known = known();
        if (serial < 0 || serial >= known.certificates.size()) {
            return -1;
        }
        Certificate asked = known.certificates.get(serial);
        byte[] octets = Reference.certificate(serial, asked.made, asked.key, namesOf(known, asked.order));
        if (k == -1) {
            return octets.length;
        }
        return k < 0 || k >= octets.length ? -1 : octets[k] & 255;
    }

    int standing(int serial) {
        Knowledge known = known();
        if (serial < 0 || serial >= known.certificates.size()) {
            return -1;
        }
        Certificate asked = known.certificates.get(serial);
        return asked.reason >= 0 ? 100 + asked.reason : now >= asked.made + 20 ? 1 : 0;
    }

    int listing() {
        StringBuilder listed = new StringBuilder();
        Knowledge known = known();
        for (int i = 0; i < known.certificates.size(); i++) {
            if (known.certificates.get(i).reason >= 0) {
                listed.append((char) i).append((char) known.certificates.get(i).reason);
            }
        }
        return Reference.sign(Reference.DESK_KEY, Reference.digest(listed.toString()));
    }

    private int state(Knowledge known, int number) {
        Authorization asked = known.authorizations.get(number);
        boolean undecided = asked.proved == null;
        if (known.accounts.get(asked.account).closed || !undecided && !asked.proved) {
            return 3;
        }
        if (!undecided && now < asked.since + life) {
            return 2;
        }
        if (now >= (undecided ? asked.made : asked.since) + life) {
            return 4;
        }
        return trials.containsKey(number) ? 1 : 0;
    }

    private int orderState(Knowledge known, int number) {
        Order asked = known.orders.get(number);
        if (asked.certificate >= 0) {
            return 2;
        }
        List<Integer> states = asked.authorizations.stream().map(part -> state(known, part)).toList();
        if (now >= asked.made + 2 * life || states.contains(3) || states.contains(4)) {
            return 3;
        }
        return states.stream().allMatch(state -> state == 2) ? 1 : 0;
    }

    private static List<String> namesOf(Knowledge known, int order) {
        return known.orders.get(order).authorizations.stream()
            .map(part -> known.authorizations.get(part).name).toList();
    }

    private static List<String> strings(Object value) {
        if (!(value instanceof List<?> list) || !list.stream().allMatch(part -> part instanceof String)) {
            return null;
        }
        return list.stream().map(part -> (String) part).toList();
    }

    private static String objectPattern(int levels) {
        String member = STRING + ":" + valuePattern(levels - 1);
        return "\\{(?:" + member + "(?:," + member + ")*)?\\}";
    }

    private static String valuePattern(int levels) {
        if (levels == 0) {
            return "(?:" + NUMBER + "|" + STRING + ")";
        }
        String value = valuePattern(levels - 1);
        String array = "\\[(?:" + value + "(?:," + value + ")*)?\\]";
        return "(?:" + NUMBER + "|" + STRING + "|" + array + "|" + objectPattern(levels) + ")";
    }

    /** Reads a text that is known to be an object; the first of several members of one name counts. */
    private static final class Reader {
        private final String text;
        private int at = 0;

        Reader(String text) {
            this.text = text;
        }

        Object value() {
            char first = text.charAt(at);
            if (first == '"') {
                int end = text.indexOf('"', at + 1);
                String string = text.substring(at + 1, end);
                at = end + 1;
                return string;
            }
            if (first == '[') {
                List<Object> list = new ArrayList<>();
                while (goesOn(']')) {
                    list.add(value());
                }
                return list;
            }
            if (first == '{') {
                Map<String, Object> map = new HashMap<>();
                while (goesOn('}')) {
                    String name = (String) value();
                    at++;
                    map.putIfAbsent(name, value());
                }
                return map;
            }
            int start = at;
            while (Character.isDigit(text.charAt(at))) {
                at++;
            }
            return Integer.valueOf(text.substring(start, at));
        }

        private boolean goesOn(char last) {
            if (text.charAt(at) != last) {
                at++;
            }
            boolean more = text.charAt(at) != last;
            at += more ? 0 : 1;
            return more;
        }
    }
}
