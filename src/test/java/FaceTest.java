import java.lang.reflect.Constructor;
import java.lang.reflect.Field;
import java.lang.reflect.Method;
import java.lang.reflect.Modifier;
import java.util.Arrays;
import java.util.Set;
import java.util.TreeSet;

/** The public face: what the document lists, and nothing else. */
public final class FaceTest {
    private static final String[] FACE = {
        "int feed(int, int, int, int, int)", "int end(int)", "int take()", "long numeral()", "int print(long)",
        "int round(long, int)", "int out(int)", "int document(int)", "int place()", "int form(int, int)",
        "int value(int, int, int)", "long bits(int, int)", "int character(int, int, int, int)", "int point(int)",
        "int same(int, int, int, int)", "int merge(int, int, int)", "int patch(int, int, int)",
        "int part(int, int, int)", "int about(int)"};

    public static void main(String[] args) throws ReflectiveOperationException {
        Class<?> press = CanonPress.class;
        Bench.due("public", Modifier.isPublic(press.getModifiers()));
        Bench.due("final", Modifier.isFinal(press.getModifiers()));
        Bench.due("no class above it", press.getSuperclass() == Object.class);
        Bench.due("no interface", press.getInterfaces().length, 0);
        checkMethods(press);
        checkConstructor(press);
        checkFields(press);
        checkClasses(press);
        Bench.close("FaceTest");
    }

    private static void checkMethods(Class<?> press) {
        Set<String> open = new TreeSet<>();
        Set<String> openNames = new TreeSet<>();
        for (Method method : press.getDeclaredMethods()) {
            if (!Modifier.isPrivate(method.getModifiers())) {
                Bench.due("public, not static: " + method.getName(),
                        (method.getModifiers() & (Modifier.PUBLIC | Modifier.STATIC)) == Modifier.PUBLIC);
                open.add(told(method));
                openNames.add(method.getName());
            }
        }
        Bench.due("the public methods", open.toString(), new TreeSet<>(Arrays.asList(FACE)).toString());
        for (Method method : press.getDeclaredMethods()) {
            boolean hidden = Modifier.isPrivate(method.getModifiers());
            Bench.due("a name of its own: " + method.getName(), !hidden || !openNames.contains(method.getName()));
        }
    }

    private static String told(Method method) {
        StringBuilder text = new StringBuilder();
        for (Class<?> type : method.getParameterTypes()) {
            text.append(text.length() > 0 ? ", " : "").append(type.getName());
        }
        return method.getReturnType().getName() + " " + method.getName() + "(" + text + ")";
    }

    private static void checkConstructor(Class<?> press) {
        Constructor<?>[] all = press.getDeclaredConstructors();
        Bench.due("constructors", all.length, 1);
        Bench.due("it takes nothing", all[0].getParameterCount(), 0);
        Bench.due("it is public", Modifier.isPublic(all[0].getModifiers()));
    }

    private static void checkFields(Class<?> press) throws ReflectiveOperationException {
        for (Field field : press.getDeclaredFields()) {
            int marks = field.getModifiers();
            boolean none = field.getName().equals("NONE");
            Bench.due("private: " + field.getName(), none || Modifier.isPrivate(marks));
            Bench.due("static and final: " + field.getName(), !Modifier.isStatic(marks) || Modifier.isFinal(marks));
        }
        Field none = press.getDeclaredField("NONE");
        int wanted = Modifier.PUBLIC | Modifier.STATIC | Modifier.FINAL;
        Bench.due("NONE is public, static, final", none.getModifiers(), wanted);
        Bench.due("NONE is an int", none.getType() == int.class);
        Bench.due("NONE", none.getInt(null), -1);
    }

    private static void checkClasses(Class<?> press) {
        Bench.due("some twelve classes", press.getDeclaredClasses().length <= 11);
        for (Class<?> inside : press.getDeclaredClasses()) {
            int marks = inside.getModifiers();
            Bench.due("static: " + inside, Modifier.isStatic(marks));
            Bench.due("not open: " + inside, !Modifier.isPublic(marks) && !Modifier.isProtected(marks));
            int fields = 0;
            for (Field field : inside.getDeclaredFields()) {
                boolean isStatic = Modifier.isStatic(field.getModifiers());
                fields += isStatic ? 0 : 1;
                Bench.due("final: " + field, !isStatic || Modifier.isFinal(field.getModifiers()));
            }
            Bench.due("some twenty fields: " + inside, fields <= 20);
        }
    }
}
