import java.lang.reflect.Constructor;
import java.lang.reflect.Field;
import java.lang.reflect.Method;
import java.lang.reflect.Modifier;
import java.nio.file.Files;
import java.nio.file.Path;
import java.util.TreeSet;
import java.util.regex.Matcher;
import java.util.regex.Pattern;

/** The public face: these members, with these types, and no others that can be seen. */
final class FaceTest {
    private static final Pattern METHOD = Pattern.compile("(int|long) (\\w+)\\(([^)]*)\\)");
    private static final Pattern CONSTANT = Pattern.compile("(\\w+) = (-?\\d+)");

    public static void main(String[] args) throws Exception {
        Check check = new Check();
        String document = Files.readString(Path.of("../shared/DOC.md"));
        String face = document.substring(document.indexOf("## The public face"), document.indexOf("## Terms"));
        TreeSet<String> want = methods(face);
        TreeSet<String> names = new TreeSet<>();
        TreeSet<String> seen = new TreeSet<>();
        for (Method method : EdgesFit.class.getDeclaredMethods()) {
            if (!Modifier.isPrivate(method.getModifiers())) {
                check.due(method + " is public", Modifier.isPublic(method.getModifiers()) ? 1 : 0, 1);
                seen.add(told(method));
                names.add(method.getName());
            }
        }
        check.due("methods of the document's face", want.size(), 32);
        check.due("the methods are " + seen + ", due are " + want, seen.equals(want) ? 1 : 0, 1);
        TreeSet<String> promised = methods(document.substring(document.indexOf("## Promise 1:")));
        check.due("the promises are of " + promised, promised.equals(want) ? 1 : 0, 1);
        asWritten(check, face);
        check.due("fields", fields(check), 5);
        constants(check, face);
        Constructor<?>[] constructors = EdgesFit.class.getDeclaredConstructors();
        check.due("constructors", constructors.length, 1);
        check.due("it is public", constructors[0].getModifiers(), Modifier.PUBLIC);
        check.due("its parameters", constructors[0].getParameterCount(), 0);
        check.due("the class", EdgesFit.class.getModifiers(), Modifier.PUBLIC | Modifier.FINAL);
        inside(check, names);
        check.due("NONE", EdgesFit.NONE, -1);
        check.due("UNKNOWN", EdgesFit.UNKNOWN, -101);
        check.due("OUTSIDE", EdgesFit.OUTSIDE, -102);
        check.due("STATE", EdgesFit.STATE, -103);
        check.due("FULL", EdgesFit.FULL, -104);
        check.end();
    }

    /** The methods that a text tells, without the names of their parameters. */
    private static TreeSet<String> methods(String text) {
        TreeSet<String> all = new TreeSet<>();
        Matcher matcher = METHOD.matcher(text);
        while (matcher.find()) {
            String types = matcher.group(3).replaceAll(" \\w+(?=,|$)", "");
            all.add(matcher.group(1) + " " + matcher.group(2) + "(" + types + ")");
        }
        return all;
    }

    /** Also the names of parameters are those of the document. */
    private static void asWritten(Check check, String face) throws Exception {
        String program = Files.readString(Path.of("src/main/java/EdgesFit.java"));
        int many = 0;
        for (String line : face.split("\n")) {
            if (line.startsWith("    public ")) {
                many++;
                String due = line.endsWith(");") ? line.replace(");", ") {\n") : line + "\n";
                check.due("the program has" + line, program.contains(due) ? 1 : 0, 1);
            }
        }
        check.due("members of the document's face", many, 34);
    }

    private static void constants(Check check, String face) throws Exception {
        int many = 0;
        Matcher matcher = CONSTANT.matcher(face);
        while (matcher.find()) {
            many++;
            Field field = EdgesFit.class.getDeclaredField(matcher.group(1));
            check.due(field.toString(), field.getInt(null), Integer.parseInt(matcher.group(2)));
            check.due(field + " is an int", field.getType() == int.class ? 1 : 0, 1);
        }
        check.due("constants of the document's face", many, 5);
    }

    private static String told(Method method) {
        StringBuilder text = new StringBuilder();
        for (Class<?> type : method.getParameterTypes()) {
            text.append(text.length() == 0 ? "" : ", ").append(type.getName());
        }
        return method.getReturnType().getName() + " " + method.getName() + "(" + text + ")";
    }

    private static int fields(Check check) {
        int many = 0;
        for (Field field : EdgesFit.class.getDeclaredFields()) {
            int modifiers = field.getModifiers();
            if (!Modifier.isPrivate(modifiers)) {
                many++;
                check.due(field.toString(), modifiers, Modifier.PUBLIC | Modifier.STATIC | Modifier.FINAL);
            }
            check.due(field + " is final", Modifier.isFinal(modifiers) ? 1 : 0, 1);
        }
        return many;
    }

    /** Of the classes inside: they are static; and no other method bears the name of a public one. */
    private static void inside(Check check, TreeSet<String> names) {
        Class<?>[] classes = EdgesFit.class.getDeclaredClasses();
        check.due("some twelve classes at most", classes.length < 13 ? 1 : 0, 1);
        for (Method method : EdgesFit.class.getDeclaredMethods()) {
            boolean hidden = Modifier.isPrivate(method.getModifiers());
            check.due(method + " has a name of its own", hidden && names.contains(method.getName()) ? 1 : 0, 0);
        }
        for (Class<?> type : classes) {
            check.due(type + " is static", Modifier.isStatic(type.getModifiers()) ? 1 : 0, 1);
            check.due(type + " has few fields", type.getDeclaredFields().length < 25 ? 1 : 0, 1);
            for (Method method : type.getDeclaredMethods()) {
                check.due(method + " has a name of its own", names.contains(method.getName()) ? 1 : 0, 0);
            }
        }
    }
}
