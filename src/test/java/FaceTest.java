import java.lang.reflect.Constructor;
import java.lang.reflect.Field;
import java.lang.reflect.Method;
import java.lang.reflect.Modifier;
import java.util.Set;
import java.util.TreeSet;

/** The public face is the document's, and nothing beside it can be seen. */
public final class FaceTest {
    private static final String[] METHODS = {
        "boolean write(char)", "int nonce()", "int request(int,int,int,int)", "int signature()",
        "boolean publish(int,int,int)", "boolean withdraw(int,int)", "int tick()", "boolean cut(int)",
        "void crash()", "int words()", "int account(int)", "int order(int)", "int authorization(int,int)",
        "int state(int)", "int token(int)", "int serial(int)", "int octet(int,int)", "int standing(int)",
        "int listing()"};

    private FaceTest() {
    }

    public static void main(String[] arguments) {
        Checks checks = new Checks("FaceTest");
        Class<?> desk = CertificateDesk.class;
        checks.due("the class is public and final",
            Modifier.isPublic(desk.getModifiers()) && Modifier.isFinal(desk.getModifiers()), true);
        checks.due("NONE", CertificateDesk.NONE, -1);
        Set<String> seen = new TreeSet<>();
        Set<String> names = new TreeSet<>();
        Set<String> hidden = new TreeSet<>();
        for (Method method : desk.getDeclaredMethods()) {
            if (Modifier.isPrivate(method.getModifiers())) {
                hidden.add(method.getName());
            } else {
                seen.add(told(method));
                names.add(method.getName());
            }
        }
        checks.due("the methods " + seen, seen.equals(new TreeSet<>(Set.of(METHODS))), true);
        hidden.retainAll(names);
        checks.due("private methods with public names " + hidden, hidden.isEmpty(), true);
        int fields = 0;
        for (Field field : desk.getDeclaredFields()) {
            boolean none = field.getName().equals("NONE") && Modifier.isPublic(field.getModifiers());
            fields += none || Modifier.isPrivate(field.getModifiers()) ? 0 : 1;
        }
        checks.due("other fields that can be seen", fields, 0);
        Constructor<?>[] constructors = desk.getDeclaredConstructors();
        checks.due("constructors", constructors.length, 1);
        checks.due("the constructor is public, with an int", Modifier.isPublic(constructors[0].getModifiers())
            && constructors[0].getParameterCount() == 1 && constructors[0].getParameterTypes()[0] == int.class, true);
        checks.end();
    }

    private static String told(Method method) {
        StringBuilder told = new StringBuilder();
        told.append(method.getReturnType().getName()).append(' ').append(method.getName()).append('(');
        String comma = "";
        for (Class<?> parameter : method.getParameterTypes()) {
            told.append(comma).append(parameter.getName());
            comma = ",";
        }
        return told.append(')').toString();
    }
}
