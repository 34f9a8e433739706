import java.lang.reflect.Field;
import java.lang.reflect.Method;
import java.lang.reflect.Modifier;
import java.util.Arrays;
import java.util.Set;
import java.util.TreeSet;

/** The public face: the document's members, with what they throw, and no others that can be seen. */
public final class FaceTest {
    private static final String ARGUMENT = "IllegalArgumentException";
    private static final String STATE = "IllegalStateException";

    public static void main(String[] args) {
        Expect expect = new Expect();
        Set<String> due = new TreeSet<>();
        String both = ARGUMENT + " " + STATE;
        String[] withBoth = {"int list(int)", "int function(int, int)", "int type(int)", "int method(int, int)",
            "int primitive(int)", "int local(int)", "int lambda(int)", "int apply(int, int)", "int use(int, int)",
            "int given(int)", "int instance(int, int, int, int, int, int)", "int define(int)", "int run(int, int)"};
        for (String method : withBoth) {
            due.add(method + " " + both);
        }
        due.add("int number(int) " + STATE);
        due.add("int scheme(int, int) " + ARGUMENT);
        due.add("boolean is(int, int) " + ARGUMENT);
        due.add("int value(int) " + ARGUMENT);

        Set<String> got = new TreeSet<>();
        Set<String> publicNames = new TreeSet<>();
        for (Method method : DictionaryHouse.class.getDeclaredMethods()) {
            if (!Modifier.isPrivate(method.getModifiers())) {
                got.add(described(method));
                publicNames.add(method.getName());
            }
        }
        expect.same("the methods", due, () -> got);
        for (Method method : DictionaryHouse.class.getDeclaredMethods()) {
            if (Modifier.isPrivate(method.getModifiers())) {
                String name = method.getName();
                expect.same("a name of its own: " + name, false, () -> publicNames.contains(name));
            }
        }
        for (Field field : DictionaryHouse.class.getDeclaredFields()) {
            boolean isConstant = field.getName().equals("NONE");
            expect.same("private: " + field.getName(), !isConstant, () -> Modifier.isPrivate(field.getModifiers()));
        }
        for (Class<?> inside : DictionaryHouse.class.getDeclaredClasses()) {
            expect.same("inside: " + inside.getName(), true, () -> Modifier.isStatic(inside.getModifiers())
                    && !Modifier.isPublic(inside.getModifiers()) && !Modifier.isProtected(inside.getModifiers()));
        }
        expect.same("final", true, () -> Modifier.isFinal(DictionaryHouse.class.getModifiers()));
        expect.same("one constructor", 1, () -> DictionaryHouse.class.getDeclaredConstructors().length);
        expect.same("without arguments", 0, () -> DictionaryHouse.class.getConstructors()[0].getParameterCount());
        expect.end();
    }

    private static String described(Method method) {
        StringBuilder text = new StringBuilder();
        text.append(method.getReturnType().getName()).append(' ').append(method.getName());
        text.append(Arrays.toString(method.getParameterTypes()).replace('[', '(').replace(']', ')'));
        for (Class<?> thrown : method.getExceptionTypes()) {
            text.append(' ').append(thrown.getSimpleName());
        }
        return text.toString();
    }
}
