/** The sentences on how a request's text is read: values, depth, fields, names, and what each op's fields must be. */
public final class NotationTest extends Sentences {
    private NotationTest() {
    }

    public static void main(String[] arguments) {
        NotationTest test = new NotationTest();
        test.values();
        test.texts();
        test.fields();
        test.names();
        test.fieldsOfEachOp();
        test.end();
    }

    private void dueForNew(String text, int want) {
        due(text, new Talk(0).send(0, -1, text), want);
    }

    /** The value as the last member, as the first one, and in an array. */
    private void dueForValue(String value, boolean good) {
        dueForNew("{\"op\":\"new\",\"z\":" + value + "}", good ? 0 : -1);
        dueForNew("{\"z\":" + value + ",\"op\":\"new\"}", good ? 0 : -1);
        dueForNew("{\"z\":[1," + value + "],\"op\":\"new\"}", good ? 0 : -1);
    }

    private void good(String... values) {
        for (String value : values) {
            dueForValue(value, true);
        }
    }

    private void wrong(String... values) {
        for (String value : values) {
            dueForValue(value, false);
        }
    }

    private void values() {
        numbers();
        strings();
        arrays();
        objects();
        blanks();
        depth();
    }

    private void numbers() {
        sentence("A VALUE is a NUMBER (0, or one to nine digits that do not begin with 0)");
        good("0", "1", "9", "10", "90", "100000000", "123456789", "999999999");
        wrong("", "00", "01", "000000000", "012345678", "0123456789", "1000000000", "1234567890", "9999999999");
        wrong("-1", "-0", "+1", "1.5", "1e3", ".5", "1-", "a", "/", ":", "1a", "null", "true", "0x1");
    }

    private void strings() {
        sentence("a STRING (\", characters 32 .. 126 other than \" and \\, perhaps none, and \")");
        good("\"\"", "\"a\"", "\"" + "x".repeat(70) + "\"");
        for (char c = 32; c <= 126; c++) {
            boolean fits = c != '"' && c != '\\';
            dueForNew("{\"op\":\"new\",\"z\":\"" + c + "\"}", fits ? 0 : -1);
            dueForNew("{\"" + c + "\":0,\"op\":\"new\"}", fits ? 0 : -1);
        }
        wrong("\"", "\"a", "\"\\\"", "\"\\\"\"", "\"\\n\"", "\"\\\\\"", "\"a\"b\"", "\"a\"\"b\"", "'a'", "a\"");
    }

    private void arrays() {
        sentence("an ARRAY ([, values with commas between them, perhaps none, and ])");
        good("[]", "[1]", "[\"\"]", "[1,2,3,4,5,6,7,8,9,0]", "[1,\"\",[],{}]", "[[],[]]");
        wrong("[", "]", "[,]", "[1,]", "[,1]", "[1,,2]", "[1;2]", "[12", "[1}", "[1]]", "[\"a\":1]", "(1)");
    }

    private void objects() {
        sentence("an OBJECT ({, members with commas between them, perhaps none, and }; a MEMBER is a string, : and a "
            + "value)");
        good("{}", "{\"\":0}", "{\"a\":1}", "{\"a\":1,\"b\":[2],\"c\":\"\",\"d\":{}}", "{\"a\":1,\"a\":2}");
        wrong("{", "}", "{1}", "{\"a\"}", "{\"a\":}", "{:1}", "{\"a\":1,}", "{,}", "{,\"a\":1}", "{\"a\":1,,\"b\":2}",
            "{\"a\":1,2}", "{\"a\":1\"b\":2}", "{\"a\":1]", "{\"a\":1}}");
        wrong("{a:1}", "{a\":1}", "{\"a:1}", "{1:1}", "{1\":1}", "{[]:1}", "{\"a\",1}", "{\"a\"::1}", "{\"a\"1}");
        dueForNew("{}", -1);
    }

    private void blanks() {
        sentence("There are no blanks but in strings.");
        good("\" \"", "\" a b \"", "{\" \":\" \"}");
        wrong(" ", " 1", "1 ", "1 2", "[ ]", "[ 1]", "[1 ]", "[1 ,2]", "[1, 2]", "{ }", "{ \"a\":1}", "{\"a\" :1}",
            "{\"a\": 1}", "{\"a\":1 }", " []", "{} ");
        dueForNew(" " + NEW, -1);
        dueForNew(NEW + " ", -1);
        dueForNew("{ \"op\":\"new\"}", -1);
        dueForNew("{\"op\" :\"new\"}", -1);
        dueForNew("{\"op\": \"new\"}", -1);
        dueForNew("{\"op\":\"new\" }", -1);
    }

    private void depth() {
        sentence("Arrays and objects are at most four deep (one that stands in no other is one deep).");
        dueForNew("{\"op\":\"new\",\"z\":[[[]]]}", 0);
        dueForNew("{\"op\":\"new\",\"z\":[[[[]]]]}", -1);
        dueForNew("{\"op\":\"new\",\"z\":[[[{}]]]}", -1);
        dueForNew("{\"z\":[[[1]]],\"op\":\"new\"}", 0);
        dueForNew("{\"z\":[[[[1]]]],\"op\":\"new\"}", -1);
        dueForNew("{\"op\":\"new\",\"z\":{\"z\":{\"z\":{}}}}", 0);
        dueForNew("{\"op\":\"new\",\"z\":{\"z\":{\"z\":{\"z\":{}}}}}", -1);
        dueForNew("{\"op\":\"new\",\"z\":{\"z\":[{\"z\":1}]}}", 0);
        dueForNew("{\"op\":\"new\",\"z\":{\"z\":[{\"z\":[]}]}}", -1);
        dueForNew("{\"z\":[[[1],[2]],[[3],[]],[]],\"y\":[[[]]],\"op\":\"new\"}", 0);
        dueForNew("{\"op\":\"new\",\"z\":\"[[[[[[{{{{{{\"}", 0);
        dueForNew("{\"z\":" + "[".repeat(90), -1);
        dueForNew("{\"z\":".repeat(19), -1);
        dueForNew("[".repeat(96), -1);
    }

    private void texts() {
        sentence("-1 if the text is not an object");
        String[] wrong = {"", "1", "\"op\"", "[]", "[" + NEW + "]", NEW + "}", NEW + NEW, NEW + ",", NEW + "1",
            "{\"op\":\"new\"", "\"op\":\"new\"}", "\"op\":\"new\"", "op", "new"};
        for (String text : wrong) {
            dueForNew(text, -1);
        }
        String longest = "{\"op\":\"new\",\"z\":\"" + "x".repeat(96 - 19) + "\"}";
        due("the longest text has", longest.length(), 96);
        dueForNew(longest, 0);
        Talk shorter = new Talk(0);
        shorter.open(0);
        due("a text shorter than the one before", shorter.send(0, -1, "{\"op\":\"new\""), -1);
        textsWithoutEnd();
    }

    private void textsWithoutEnd() {
        String[] starts = {"x", "\"", "\",\"z\":[", "\",\"\":1,\"\":["};
        String[] parts = {"x", "x\",\"z\":\"", "1,", "12,", "[],", "{},", "\"\",", "{\"\":1},", "[", "{\"\":"};
        for (String start : starts) {
            for (String part : parts) {
                String whole = "{\"op\":\"new\",\"z\":\"" + start + part.repeat(96);
                dueForNew(whole.substring(0, 95), -1);
                dueForNew(whole.substring(0, 96), -1);
            }
        }
    }

    private void fields() {
        firstMember();
        characterForCharacter();
        opsThatAreNone();
    }

    private void firstMember() {
        sentence("The FIELD f of an object is the value of its first member whose string is f");
        dueForNew("{\"op\":\"new\",\"op\":1}", 0);
        dueForNew("{\"op\":1,\"op\":\"new\"}", -1);
        dueForNew("{\"op\":\"nothing\",\"op\":\"new\"}", -1);
        dueForNew("{\"z\":{\"op\":\"new\"}}", -1);
        dueForNew("{\"z\":[\"op\",\"new\"]}", -1);
        dueForNew("{\"z\":\"op\",\"y\":\"new\"}", -1);
        dueForNew("{\"z\":{\"op\":1},\"op\":\"new\"}", 0);
        dueForNew("{\"z\":\"op\",\"op\":\"new\"}", 0);
        dueForOrder("[\"a\"],\"names\":1", 0);
        dueForOrder("1,\"names\":[\"a\"]", -1);
        String csr = "{\"key\":3,\"key\":\"\",\"names\":[\"a\",\"b\"],\"names\":0}";
        dueForFinish(",\"order\":0,\"csr\":" + csr + ",\"csr\":0", 0);
        dueForFinish(",\"order\":0,\"csr\":0,\"csr\":" + csr, -1);
    }

    private void characterForCharacter() {
        sentence("whose string is f, character for character");
        String[] others = {"Op", "OP", "op ", " op", "o", "p", "", "opp", "oop", "po"};
        for (String other : others) {
            dueForNew("{\"" + other + "\":\"new\"}", -1);
            dueForNew("{\"" + other + "\":1,\"op\":\"new\"}", 0);
        }
    }

    private void opsThatAreNone() {
        sentence("or its field op is not a string, or none of the strings below");
        String[] none = {"\"\"", "\"n\"", "\"ne\"", "\"neww\"", "\"new \"", "\" new\"", "\"New\"", "\"NEW\"", "1", "0",
            "[]", "[\"new\"]", "{}", "{\"op\":\"new\"}", "\"account\"", "\"orders\"", "\"orde\"", "\"tr\"", "\"trys\"",
            "\"finis\"", "\"finished\"", "\"revok\"", "\"revoked\"", "\"clos\"", "\"closed\"", "\"op\""};
        for (String op : none) {
            dueForNew("{\"op\":" + op + "}", -1);
        }
        dueForNew("{\"z\":\"new\"}", -1);
    }

    private void names() {
        lengthsOfNames();
        charactersOfNames();
        dotsInNames();
        countsOfNames();
    }

    private void dueForOrder(String names, int want) {
        Talk talk = new Talk(0);
        talk.open(1);
        due("order of " + names, talk.send(1, 0, "{\"op\":\"order\",\"names\":" + names + "}"), want);
        due("a record of it", talk.ask().words() > 3, want == 0);
    }

    private void dueForName(String name, int want) {
        dueForOrder("[\"" + name + "\"]", want);
        dueForOrder("[\"q\",\"" + name + "\"]", want);
    }

    private void lengthsOfNames() {
        sentence("A NAME is 1 to 12 characters");
        dueForName("", -1);
        dueForName("a", 0);
        dueForName("0", 0);
        dueForName("abcdefghijk", 0);
        dueForName("abcdefghijkl", 0);
        dueForName("a.b.c.d.e.fg", 0);
        dueForName("abcdefghijklm", -1);
        dueForName("a.b.c.d.e.f.g", -1);
    }

    private void charactersOfNames() {
        sentence("a .. z, 0 .. 9 and .");
        for (char c = 32; c <= 126; c++) {
            if (c != '"' && c != '\\') {
                boolean fits = (c >= 'a' && c <= 'z') || (c >= '0' && c <= '9');
                dueForOrder("[\"" + c + "\"]", fits ? 0 : -1);
                dueForOrder("[\"a" + c + "b\"]", fits || c == '.' ? 0 : -1);
            }
        }
    }

    private void dotsInNames() {
        sentence("the first and the last no dot, no two dots side by side");
        String[] wrong = {".", "..", ".a", "a.", ".a.", "a..b", "a...b", "a.b..c", "a..b.c", "..a", "a.."};
        for (String name : wrong) {
            dueForName(name, -1);
        }
        String[] good = {"a.b", "0.9", "1.1.1.1", "a.b.c.d.e.f", "ab.cd"};
        for (String name : good) {
            dueForName(name, 0);
        }
    }

    private void countsOfNames() {
        sentence("order, with the field names, an array of one to three strings that are names, all different");
        dueForOrder("[]", -1);
        dueForOrder("[\"a\"]", 0);
        dueForOrder("[\"a\",\"b\",\"c\"]", 0);
        dueForOrder("[\"a\",\"b\",\"c\",\"d\"]", -1);
        dueForOrder("[\"a\",\"b\",\"c\",\"a\"]", -1);
        dueForOrder("[\"ab\",\"a\",\"b\"]", 0);
        dueForOrder("[\"a\",\"a\"]", -1);
        dueForOrder("[\"a\",\"a\",\"b\"]", -1);
        dueForOrder("[\"a\",\"b\",\"a\"]", -1);
        dueForOrder("[\"b\",\"a\",\"a\"]", -1);
        dueForOrder("[\"a.b\",\"c\",\"a.b\"]", -1);
        dueForOrder("[\"a\",\"b\",\".\"]", -1);
        dueForOrder("[1]", -1);
        dueForOrder("[\"a\",1]", -1);
        dueForOrder("[[\"a\"]]", -1);
        dueForOrder("[\"a\",[]]", -1);
        dueForOrder("[{}]", -1);
        dueForOrder("\"a\"", -1);
        dueForOrder("{\"a\":\"b\"}", -1);
        dueForOrder("{}", -1);
        dueForOrder("1", -1);
    }

    private void fieldsOfEachOp() {
        fieldsOfOrder();
        fieldsOfTry();
        fieldsOfFinish();
        fieldsOfRevoke();
        otherFields();
    }

    private void dueFor(Talk talk, String members, int want) {
        String text = "{" + members + "}";
        due(text, talk.send(1, 0, text), want);
    }

    private void fieldsOfOrder() {
        sentence("or a field named below is not there, or not as said there");
        Talk talk = new Talk(0);
        talk.open(1);
        dueFor(talk, "\"op\":\"order\"", -1);
        dueFor(talk, "\"op\":\"order\",\"name\":[\"a\"]", -1);
        dueFor(talk, "\"op\":\"order\",\"z\":{\"names\":[\"a\"]}", -1);
        dueFor(talk, "\"names\":[\"a\"],\"op\":\"order\"", 0);
    }

    private void fieldsOfTry() {
        sentence("try, with the fields auth, a number, and way, 0 or 1");
        Talk talk = Talk.ordered(0, 1, "a");
        String op = "\"op\":\"try\",";
        dueFor(talk, "\"op\":\"try\"", -1);
        dueFor(talk, op + "\"auth\":0", -1);
        dueFor(talk, op + "\"way\":0", -1);
        dueFor(talk, op + "\"auth\":\"0\",\"way\":0", -1);
        dueFor(talk, op + "\"auth\":[0],\"way\":0", -1);
        dueFor(talk, op + "\"auth\":0,\"way\":2", -1);
        dueFor(talk, op + "\"auth\":0,\"way\":10", -1);
        dueFor(talk, op + "\"auth\":0,\"way\":\"0\"", -1);
        dueFor(talk, op + "\"auth\":0,\"way\":[]", -1);
        dueFor(talk, op + "\"auth\":9,\"way\":2", -1);
        dueFor(talk, op + "\"auth\":999999999,\"way\":1", -4);
        dueFor(talk, "\"way\":1,\"auth\":0,\"op\":\"try\"", 0);
        dueFor(Talk.ordered(0, 1, "a"), op + "\"auth\":0,\"way\":0", 0);
    }

    private void dueForFinish(String members, int want) {
        dueFor(Talk.proved(5, 1, "a", "b"), "\"op\":\"finish\"" + members, want);
    }

    private void fieldsOfFinish() {
        sentence("finish, with the fields order, a number, and csr, an object with the fields key, a number, and "
            + "names, an array of strings, whatever and however many");
        String both = "\"names\":[\"a\",\"b\"]";
        dueForFinish(",\"order\":0,\"csr\":{\"key\":3," + both + "}", 0);
        dueForFinish(",\"csr\":{" + both + ",\"key\":3,\"z\":[]},\"z\":0,\"order\":0", 0);
        String[] wrong = {"", ",\"csr\":{\"key\":3," + both + "}", ",\"order\":\"0\",\"csr\":{\"key\":3," + both + "}",
            ",\"order\":[],\"csr\":{\"key\":3," + both + "}", ",\"order\":0", ",\"order\":0,\"csr\":[]",
            ",\"order\":0,\"csr\":3", ",\"order\":0,\"csr\":\"\"", ",\"order\":0,\"csr\":{}",
            ",\"order\":0,\"key\":3," + both, ",\"order\":0,\"csr\":{\"z\":0},\"key\":3," + both,
            ",\"order\":0,\"csr\":[{\"key\":3," + both + "}]"};
        for (String members : wrong) {
            dueForFinish(members, -1);
        }
        String[] wrongCsr = {both, "\"key\":3", "\"key\":\"3\"," + both, "\"key\":[]," + both,
            "\"key\":3,\"names\":\"a\"", "\"key\":3,\"names\":\"]\"", "\"key\":3,\"names\":\"\",\"]\":0",
            "\"key\":3,\"names\":{}", "\"key\":3,\"names\":[\"a\",\"b\",1]",
            "\"key\":3,\"names\":[1,\"a\"]", "\"key\":3,\"names\":[\"a\",[]]", "\"key\":3,\"names\":[{}]"};
        for (String members : wrongCsr) {
            dueForFinish(",\"order\":0,\"csr\":{" + members + "}", -1);
            dueForFinish(",\"order\":9,\"csr\":{" + members + "}", -1);
        }
        String[] names = {"", "\"\",\"..\"", "\"A\"", "\"abcdefghijklm\"", "\"\"" + ",\"\"".repeat(8)};
        for (String each : names) {
            dueForFinish(",\"order\":0,\"csr\":{\"key\":3,\"names\":[" + each + "]}", -4);
        }
        String many = "{\"csr\":{\"names\":[\"\"" + ",\"\"".repeat(14) + "],\"key\":3},\"order\":0,\"op\":\"finish\"}";
        due(many, Talk.proved(5, 1, "a").send(1, 0, many), -4);
    }

    private void fieldsOfRevoke() {
        sentence("revoke, with the fields serial and why, numbers");
        Talk talk = Talk.certified(5, 1, "a");
        String op = "\"op\":\"revoke\"";
        dueFor(talk, op, -1);
        dueFor(talk, op + ",\"serial\":0", -1);
        dueFor(talk, op + ",\"why\":0", -1);
        dueFor(talk, op + ",\"serial\":\"0\",\"why\":0", -1);
        dueFor(talk, op + ",\"serial\":0,\"why\":\"0\"", -1);
        dueFor(talk, op + ",\"serial\":1,\"why\":[]", -1);
        dueFor(talk, op + ",\"serial\":{},\"why\":99", -1);
        dueFor(talk, op + ",\"serial\":0,\"why\":999999999", -4);
        dueFor(talk, op + ",\"why\":0,\"serial\":0", 0);
    }

    private void otherFields() {
        sentence("(other fields do not matter)");
        String more = ",\"way\":[],\"why\":\"\",\"key\":{},\"names\":0,\"auth\":{\"op\":1}";
        dueForNew("{\"op\":\"new\"" + more + "}", 0);
        Talk talk = Talk.ordered(0, 1, "a");
        dueFor(talk, "\"op\":\"try\",\"auth\":0,\"way\":1,\"names\":0,\"csr\":[[]]", 0);
        dueFor(talk, "\"serial\":\"\",\"order\":{},\"op\":\"close\",\"\":{\"op\":\"new\"}", 0);
        dueForOrder("[\"a\"],\"order\":\"\",\"key\":[1]", 0);
        dueForFinish(",\"order\":0,\"csr\":{\"key\":3,\"op\":0,\"names\":[\"a\",\"b\"]},\"way\":7", 0);
    }
}
