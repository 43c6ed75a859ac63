import java.lang.reflect.Constructor;
import java.lang.reflect.Field;
import java.lang.reflect.Method;
import java.lang.reflect.Modifier;
import java.util.Arrays;
import java.util.TreeSet;

/** The public face: these members, with these types, and no others that can be seen. */
final class FaceTest {
    private static final String[] METHODS = {
        "int cell(int, int)", "int run(int, int, int, int)", "int land(int, int)", "int mark(int, int, int)",
        "int as(int, int)", "int about(int, int)", "int goesOn(int, int)", "int drop()",
        "int put(int, int, int, int, int)", "int fit(int, int, int)", "int chance(int, int, int, int, int)",
        "int beside(int, int, int, int)", "int letters(long)", "int blank()", "int fault()", "int law(int)",
        "int strike(int)", "int distance(int, int)", "int beast(int, int)", "int crossing(int, int, int, int, int)",
        "int spread(int, int, int)", "int unlike(int)", "int speed(int)", "int claim(int, int, int, boolean, int)",
        "int story(int, int)", "int judge(int, long)", "int pole(int, int, int, int)", "int floor(int)",
        "int mirror(int)", "int ridge()", "int count(int)", "long digest()"};

    public static void main(String[] args) {
        Check check = new Check();
        TreeSet<String> names = new TreeSet<>();
        TreeSet<String> seen = new TreeSet<>();
        for (Method method : EdgesFit.class.getDeclaredMethods()) {
            if (!Modifier.isPrivate(method.getModifiers())) {
                check.due(method + " is public", Modifier.isPublic(method.getModifiers()) ? 1 : 0, 1);
                seen.add(told(method));
                names.add(method.getName());
            }
        }
        TreeSet<String> want = new TreeSet<>(Arrays.asList(METHODS));
        check.due("the methods are " + seen, seen.equals(want) ? 1 : 0, 1);
        check.due("fields", fields(check), 5);
        Constructor<?>[] constructors = EdgesFit.class.getDeclaredConstructors();
        check.due("constructors", constructors.length, 1);
        check.due("it is public", constructors[0].getModifiers(), Modifier.PUBLIC);
        check.due("its parameters", constructors[0].getParameterCount(), 0);
        check.due("the class", EdgesFit.class.getModifiers(), Modifier.PUBLIC | Modifier.FINAL);
        inside(check, names);
        check.due("NONE", EdgesFit.NONE, -1);
        check.due("UNKNOWN", EdgesFit.UNKNOWN, -101);
        check.due("OUTSIDE", EdgesFit.OUTSIDE, -102);
        check.due("STATE", EdgesFit.STATE, -103);
        check.due("FULL", EdgesFit.FULL, -104);
        check.end();
    }

    private static String told(Method method) {
        StringBuilder text = new StringBuilder();
        for (Class<?> type : method.getParameterTypes()) {
            text.append(text.length() == 0 ? "" : ", ").append(type.getName());
        }
        return method.getReturnType().getName() + " " + method.getName() + "(" + text + ")";
    }

    private static int fields(Check check) {
        int many = 0;
        for (Field field : EdgesFit.class.getDeclaredFields()) {
            int modifiers = field.getModifiers();
            if (!Modifier.isPrivate(modifiers)) {
                many++;
                check.due(field.toString(), modifiers, Modifier.PUBLIC | Modifier.STATIC | Modifier.FINAL);
            }
            check.due(field + " is final", Modifier.isFinal(modifiers) ? 1 : 0, 1);
        }
        return many;
    }

    /** Of the classes inside: they are static, and none of their methods bears the name of a public one. */
    private static void inside(Check check, TreeSet<String> names) {
        Class<?>[] classes = EdgesFit.class.getDeclaredClasses();
        check.due("some twelve classes at most", classes.length < 13 ? 1 : 0, 1);
        for (Class<?> type : classes) {
            check.due(type + " is static", Modifier.isStatic(type.getModifiers()) ? 1 : 0, 1);
            check.due(type + " has few fields", type.getDeclaredFields().length < 25 ? 1 : 0, 1);
            for (Method method : type.getDeclaredMethods()) {
                check.due(method + " has a name of its own", names.contains(method.getName()) ? 1 : 0, 0);
            }
        }
    }
}
