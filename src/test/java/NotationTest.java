/** Promise 4, as far as the text is read: what is an object, which field counts, and what each op's fields must be. */
public final class NotationTest {
    private static final Checks CHECKS = new Checks("NotationTest");

    private NotationTest() {
    }

    public static void main(String[] arguments) {
        values();
        depth();
        texts();
        fields();
        names();
        fieldsOfTry();
        fieldsOfFinish();
        fieldsOfRevoke();
        CHECKS.end();
    }

    private static void dueForNew(String text, int want) {
        CHECKS.due(text, new Talk(0).send(0, -1, text), want);
    }

    private static void dueForValue(String value, boolean good) {
        dueForNew("{\"op\":\"new\",\"z\":" + value + "}", good ? 0 : -1);
        dueForNew("{\"z\":" + value + ",\"op\":\"new\"}", good ? 0 : -1);
        dueForNew("{\"z\":[1," + value + "],\"op\":\"new\"}", good ? 0 : -1);
    }

    private static void values() {
        String[] good = {"0", "1", "10", "123456789", "999999999", "\"\"", "\"a\"", "\" !#[]^~{},:\"", "[]", "{}",
            "[1]", "[1,\"\",[],{}]", "{\"\":0}", "{\"a\":1,\"b\":[2]}", "{\"a\":1,\"a\":2}"};
        for (String value : good) {
            dueForValue(value, true);
        }
        String[] wrong = {"", "00", "01", "1234567890", "-1", "+1", "1.5", "1e3", "a", "null", "true", "\"", "\"a",
            "\"\\\"", "\"\\n\"", "\"a\"b\"", "'a'", "[", "]", "[,]", "[1,]", "[,1]", "[1 ,2]", "[1;2]", "[1 2]", "[12",
            "[1}", "{", "}", "{1}", "{\"a\"}", "{\"a\":}", "{\"a\":1,}", "{,}", "{a:1}", "{1:1}", "{\"a\" :1}",
            "{\"a\":1]", "{\"a\",1}", "{\"a\"::1}", " 1", "1 "};
        for (String value : wrong) {
            dueForValue(value, false);
        }
    }

    private static void depth() {
        dueForNew("{\"op\":\"new\",\"z\":[[[]]]}", 0);
        dueForNew("{\"op\":\"new\",\"z\":[[[[]]]]}", -1);
        dueForNew("{\"op\":\"new\",\"z\":{\"z\":[{\"z\":1}]}}", 0);
        dueForNew("{\"op\":\"new\",\"z\":{\"z\":[{\"z\":{}}]}}", -1);
        dueForNew("{\"z\":[[[1],[2]],[[3],[]],[]],\"y\":[[[]]],\"op\":\"new\"}", 0);
        String deep = "[[[[[[[[[[[[[[[[[[[[[[[[[[[[[[[[[[[[[[[[[[[[[[[[";
        dueForNew("{\"z\":" + deep, -1);
        dueForNew(deep, -1);
    }

    private static void texts() {
        String[] wrong = {"", " ", "1", "\"op\"", "[]", "[{\"op\":\"new\"}]", " {\"op\":\"new\"}", "{\"op\":\"new\"} ",
            "{\"op\":\"new\"}}", "{\"op\":\"new\"}{\"op\":\"new\"}", "{\"op\":\"new\"},", "{\"op\":\"new\"", "{}",
            "{\"op\": \"new\"}", "\"op\":\"new\""};
        for (String text : wrong) {
            dueForNew(text, -1);
        }
        String longest = "{\"op\":\"new\",\"z\":\"" + "x".repeat(96 - 19) + "\"}";
        CHECKS.due("the longest text has", longest.length(), 96);
        dueForNew(longest, 0);
        String[] endless = {"x", "\"", "\",\"z\":[", "\",\"\":1,\"\":["};
        String[] more = {"x", "x\",\"z\":\"", "1,", "12,", "[],", "{},", "\"\",", "{\"\":1},", "[", "{\"\":"};
        for (String start : endless) {
            for (String part : more) {
                String whole = "{\"op\":\"new\",\"z\":\"" + start + part.repeat(96);
                dueForNew(whole.substring(0, 95), -1);
                dueForNew(whole.substring(0, 96), -1);
            }
        }
        Talk shorter = new Talk(0);
        shorter.open(0);
        CHECKS.due("a text cut short", shorter.send(0, -1, "{\"op\":\"new\""), -1);
    }

    private static void fields() {
        dueForNew("{\"op\":\"new\",\"op\":1}", 0);
        dueForNew("{\"op\":1,\"op\":\"new\"}", -1);
        dueForNew("{\"op\":\"nothing\",\"op\":\"new\"}", -1);
        dueForNew("{\"z\":{\"op\":\"new\"}}", -1);
        dueForNew("{\"z\":\"op\",\"y\":\"new\"}", -1);
        dueForNew("{\"z\":{\"op\":1},\"op\":\"new\"}", 0);
        dueForNew("{\"z\":\"\\\",\"op\":\"new\"}", -1);
        String[] none = {"\"\"", "\"ne\"", "\"neww\"", "\"New\"", "\" new\"", "\"new \"", "1", "[\"new\"]",
            "{\"op\":\"new\"}", "\"account\"", "\"orders\"", "\"clos\""};
        for (String op : none) {
            dueForNew("{\"op\":" + op + "}", -1);
        }
        dueForNew("{\"Op\":\"new\"}", -1);
        dueForNew("{\"op \":\"new\"}", -1);
        dueForNew("{\"o\":\"new\"}", -1);
    }

    private static void dueForOrder(String names, int want) {
        Talk talk = new Talk(0);
        talk.open(1);
        CHECKS.due("order of " + names, talk.send(1, 0, "{\"op\":\"order\",\"names\":" + names + "}"), want);
        CHECKS.due("words after it", talk.ask().words() > 3, want == 0);
    }

    private static void names() {
        String[] good = {"a", "z", "0", "9", "a.b", "0.9", "a.b.c.d.e.f", "abcdefghijkl", "az09.az09.az", "1.1.1.1"};
        for (String name : good) {
            dueForOrder("[\"" + name + "\"]", 0);
            dueForOrder("[\"q\",\"" + name + "\"]", 0);
        }
        String[] wrong = {"", ".", "..", ".a", "a.", "a..b", "A", "aB", "a-b", "a_b", "a b", " a", "a ", "`", "{", "/",
            ":", "@", "abcdefghijklm", "a.b.c.d.e.f.g", "*"};
        for (String name : wrong) {
            dueForOrder("[\"" + name + "\"]", -1);
            dueForOrder("[\"q\",\"" + name + "\"]", -1);
        }
        dueForOrder("[\"a\",\"b\",\"c\"]", 0);
        dueForOrder("[\"ab\",\"a\",\"b\"]", 0);
        dueForOrder("[]", -1);
        dueForOrder("[\"a\",\"b\",\"c\",\"d\"]", -1);
        dueForOrder("[\"a\",\"a\"]", -1);
        dueForOrder("[\"a\",\"b\",\"a\"]", -1);
        dueForOrder("[\"a\",\"b\",\"b\"]", -1);
        dueForOrder("[1]", -1);
        dueForOrder("[\"a\",1]", -1);
        dueForOrder("[[\"a\"]]", -1);
        dueForOrder("[\"a\",[]]", -1);
        dueForOrder("\"a\"", -1);
        dueForOrder("{\"a\":\"b\"}", -1);
        dueForOrder("1", -1);
        dueForOrder("[\"a\"],\"names\":1", 0);
        dueForOrder("1,\"names\":[\"a\"]", -1);
        Talk talk = new Talk(0);
        talk.open(1);
        CHECKS.due("order without names", talk.send(1, 0, "{\"op\":\"order\"}"), -1);
        CHECKS.due("order with name", talk.send(1, 0, "{\"op\":\"order\",\"name\":[\"a\"]}"), -1);
        CHECKS.due("-1 before -4", talk.send(1, -1, "{\"op\":\"order\",\"names\":[\".\"]}"), -1);
        CHECKS.due("-4 by WHO", talk.send(1, -1, "{\"op\":\"order\",\"names\":[\"a\"]}"), -4);
    }

    private static void dueFor(Talk talk, String members, int want) {
        String text = "{" + members + "}";
        CHECKS.due(text, talk.send(1, 0, text), want);
    }

    private static void fieldsOfTry() {
        Talk talk = new Talk(0);
        talk.open(1);
        talk.order(1, 0, "a");
        String op = "\"op\":\"try\",";
        dueFor(talk, "\"op\":\"try\"", -1);
        dueFor(talk, op + "\"auth\":0", -1);
        dueFor(talk, op + "\"way\":0", -1);
        dueFor(talk, op + "\"auth\":\"0\",\"way\":0", -1);
        dueFor(talk, op + "\"auth\":0,\"way\":2", -1);
        dueFor(talk, op + "\"auth\":0,\"way\":\"0\"", -1);
        dueFor(talk, op + "\"auth\":[0],\"way\":0", -1);
        dueFor(talk, op + "\"auth\":9,\"way\":2", -1);
        dueFor(talk, op + "\"auth\":9,\"way\":1", -4);
        dueFor(talk, op + "\"auth\":999999999,\"way\":1", -4);
        dueFor(talk, "\"way\":1,\"auth\":0,\"op\":\"try\"", 0);
        CHECKS.due("-1 before -4", new Talk(0).send(0, -1, "{\"op\":\"try\",\"auth\":0,\"way\":2}"), -1);
        CHECKS.due("-4 by WHO", new Talk(0).send(0, -1, "{\"op\":\"try\",\"auth\":0,\"way\":1}"), -4);
    }

    private static void dueForFinish(String members, int want) {
        Talk talk = Talk.proved(5, 1, "a", "b");
        dueFor(talk, "\"op\":\"finish\"" + members, want);
    }

    private static void fieldsOfFinish() {
        String both = "\"names\":[\"a\",\"b\"]";
        dueForFinish(",\"order\":0,\"csr\":{\"key\":3," + both + "}", 0);
        dueForFinish(",\"csr\":{" + both + ",\"key\":3,\"z\":[]},\"z\":0,\"order\":0", 0);
        dueForFinish("", -1);
        dueForFinish(",\"csr\":{\"key\":3," + both + "}", -1);
        dueForFinish(",\"order\":\"0\",\"csr\":{\"key\":3," + both + "}", -1);
        dueForFinish(",\"order\":0", -1);
        dueForFinish(",\"order\":0,\"csr\":[]", -1);
        dueForFinish(",\"order\":0,\"csr\":3", -1);
        dueForFinish(",\"order\":0,\"csr\":{}", -1);
        dueForFinish(",\"order\":0,\"key\":3," + both, -1);
        dueForFinish(",\"order\":0,\"csr\":{\"z\":0},\"key\":3," + both, -1);
        dueForFinish(",\"order\":0,\"csr\":{" + both + "}", -1);
        dueForFinish(",\"order\":0,\"csr\":{\"key\":3}", -1);
        dueForFinish(",\"order\":0,\"csr\":{\"key\":\"3\"," + both + "}", -1);
        dueForFinish(",\"order\":0,\"csr\":{\"key\":3,\"names\":\"a\"}", -1);
        dueForFinish(",\"order\":0,\"csr\":{\"key\":3,\"names\":{}}", -1);
        dueForFinish(",\"order\":0,\"csr\":{\"key\":3,\"names\":[\"a\",\"b\",1]}", -1);
        dueForFinish(",\"order\":0,\"csr\":{\"key\":3,\"names\":[1,\"a\"]}", -1);
        dueForFinish(",\"order\":9,\"csr\":{\"key\":3,\"names\":[[]]}", -1);
        dueForFinish(",\"order\":0,\"csr\":{\"key\":3,\"names\":[]}", -4);
        dueForFinish(",\"order\":0,\"csr\":{\"key\":3,\"names\":[\"\",\"..\"]}", -4);
        dueForFinish(",\"order\":0,\"csr\":{\"key\":3,\"names\":[\"\",\"\",\"\",\"\",\"\",\"\",\"\",\"\",\"\"]}", -4);
        dueForFinish(",\"csr\":{\"names\":[\"\",\"\",\"\",\"\",\"\",\"\",\"\",\"\",\"\",\"\",\"\"],\"key\":3},\"order\":0",
            -4);
    }

    private static void fieldsOfRevoke() {
        Talk talk = Talk.proved(5, 1, "a");
        talk.finish(1, 0, 0, 3, "a");
        String op = "\"op\":\"revoke\"";
        dueFor(talk, op, -1);
        dueFor(talk, op + ",\"serial\":0", -1);
        dueFor(talk, op + ",\"why\":0", -1);
        dueFor(talk, op + ",\"serial\":\"0\",\"why\":0", -1);
        dueFor(talk, op + ",\"serial\":0,\"why\":\"0\"", -1);
        dueFor(talk, op + ",\"serial\":1,\"why\":[]", -1);
        dueFor(talk, op + ",\"serial\":0,\"why\":11", -4);
        dueFor(talk, op + ",\"why\":0,\"serial\":0", 0);
    }
}
