import java.io.IOException;
import java.lang.reflect.Constructor;
import java.lang.reflect.Field;
import java.lang.reflect.Member;
import java.lang.reflect.Method;
import java.lang.reflect.Modifier;
import java.nio.file.Files;
import java.nio.file.Path;
import java.util.Arrays;
import java.util.HashSet;
import java.util.Set;
import java.util.TreeSet;
import java.util.regex.Matcher;
import java.util.regex.Pattern;

/** The face of the class, and the rules of LANGUAGE.md that the text of the class shows. */
public final class FaceTest {
    private static final String[] FACE = {
        "int set(int,int) IllegalArgumentException IllegalStateException",
        "int setBend(int,int,int) IllegalArgumentException",
        "int addStar(int,int) IllegalArgumentException IllegalStateException",
        "int aim(int) IndexOutOfBoundsException IllegalStateException",
        "int learn() IllegalStateException",
        "int learnAll() IllegalStateException",
        "int forget(int) IndexOutOfBoundsException",
        "int star(int,int) IndexOutOfBoundsException IllegalArgumentException",
        "double correction(int,boolean) IndexOutOfBoundsException",
        "int source(int) IndexOutOfBoundsException",
        "int lessons(int) IndexOutOfBoundsException",
        "double miss(int) IllegalArgumentException IllegalStateException",
        "int value(int) IllegalArgumentException",
        "int setting(int) IllegalArgumentException",
        "int bend(int,int) IllegalArgumentException",
        "double missOf(int) IndexOutOfBoundsException",
        "int slewTo(int) IndexOutOfBoundsException",
        "int found()",
        "int nearest()",
        "int tour(int,int) IllegalArgumentException IndexOutOfBoundsException",
        "int append(int) IllegalArgumentException IllegalStateException",
        "int clearText()",
        "int carryOut()",
        "int undo() IllegalStateException",
        "long digest()",
    };

    // No more than LANGUAGE.md itself forbids: lists are imported from java.util.
    private static final String[] FORBIDDEN = {
        "\\bimport (?!java\\.util\\.)", "\\bpackage\\b", "->", "::", "\\bassert\\b", "\\bfinally\\b",
        "\\bsynchronized\\b", "\\bprotected\\b", "\\.(hashCode|getMessage|getClass)\\b",
        "\\b\\w+Exact\\b", "static final (double|float)\\b", "\\bSystem\\.(?!arraycopy\\b)\\w+",
        "catch \\((final )?(Throwable|Error|Exception|NullPointer|ArrayIndex|ClassCast|Negative|ArrayStore)",
        "\\bMath\\.(sqrt|cbrt|floor|ceil|round|rint|pow|random|hypot|sin|cos|tan|log|exp)\\(",
    };

    // LANGUAGE.md says "some twelve" and "some twenty": a few more are no fault.
    private static final int MOST_CLASSES = 15;
    private static final int MOST_FIELDS = 25;
    // The arrow of a case is none of a lambda.
    private static final String ARROW_OF_A_CASE = "\\b(case\\b[^;{}>]*|default\\s*)->";

    public static void main(String[] args) throws IOException, ReflectiveOperationException {
        face();
        constants();
        classes();
        source();
        Checks.finish("FaceTest");
    }

    private static void face() {
        Set<String> got = new TreeSet<>();
        for (Method method : BentScope.class.getDeclaredMethods()) {
            if (!isPrivate(method)) {
                Checks.dueTrue(method + " is public", Modifier.isPublic(method.getModifiers()));
                got.add(told(method));
            }
        }
        Set<String> want = new TreeSet<>(Arrays.asList(FACE));
        Checks.dueTrue("the methods of the face: " + got, got.equals(want));
        for (Constructor<?> constructor : BentScope.class.getDeclaredConstructors()) {
            boolean ofTheFace = constructor.getParameterCount() == 0;
            Checks.dueTrue(constructor + " is as it should be",
                ofTheFace ? Modifier.isPublic(constructor.getModifiers()) : isPrivate(constructor));
        }
        Checks.due("parameters of the public constructor",
            BentScope.class.getConstructors()[0].getParameterCount(), 0);
        for (Field field : BentScope.class.getDeclaredFields()) {
            Checks.dueTrue(field + " is private", isPrivate(field) || field.getName().equals("NONE"));
        }
        Checks.due("public final", BentScope.class.getModifiers(), Modifier.PUBLIC | Modifier.FINAL);
    }

    private static void constants() throws ReflectiveOperationException {
        Field none = BentScope.class.getField("NONE");
        Checks.due("public static final", none.getModifiers(), Modifier.PUBLIC | Modifier.STATIC | Modifier.FINAL);
        Checks.dueTrue("an int", none.getType() == int.class);
        Checks.due("NONE", none.getInt(null), -1);
    }

    private static void classes() {
        Set<String> face = new HashSet<>();
        for (String line : FACE) {
            face.add(line.substring(line.indexOf(' ') + 1, line.indexOf('(')));
        }
        members(BentScope.class, face);
        Checks.dueTrue("few classes", BentScope.class.getDeclaredClasses().length <= MOST_CLASSES);
        for (Class<?> inner : BentScope.class.getDeclaredClasses()) {
            int modifiers = inner.getModifiers();
            Checks.dueTrue(inner + " stays inside", !Modifier.isPublic(modifiers) && !Modifier.isProtected(modifiers));
            members(inner, face);
        }
    }

    private static void members(Class<?> owner, Set<String> face) {
        int fields = 0;
        for (Field field : owner.getDeclaredFields()) {
            boolean constant = Modifier.isStatic(field.getModifiers());
            Checks.dueTrue(field + " is final", !constant || Modifier.isFinal(field.getModifiers()));
            fields += constant ? 0 : 1;
        }
        Checks.dueTrue(owner + " has few fields", fields <= MOST_FIELDS);
        for (Method method : owner.getDeclaredMethods()) {
            Checks.dueTrue(method + " bears a name of the face",
                !isPrivate(method) || !face.contains(method.getName()));
            Checks.dueTrue(method + " has few parameters", method.getParameterCount() <= 7);
        }
    }

    private static void source() throws IOException {
        String text = Files.readString(Path.of("src/main/java/BentScope.java"));
        String code = text.replaceAll("(?s)/\\*.*?\\*/", "").replaceAll("//[^\n]*", "")
            .replaceAll("\"[^\"]*\"", "\"\"").replaceAll(ARROW_OF_A_CASE, "");
        for (String pattern : FORBIDDEN) {
            Matcher matcher = Pattern.compile(pattern).matcher(code);
            Checks.dueTrue("the text has " + pattern, !matcher.find());
        }
    }

    private static boolean isPrivate(Member member) {
        return Modifier.isPrivate(member.getModifiers());
    }

    private static String told(Method method) {
        StringBuilder line = new StringBuilder();
        line.append(method.getReturnType().getSimpleName()).append(' ').append(method.getName());
        line.append('(');
        for (int i = 0; i < method.getParameterCount(); i++) {
            line.append(i == 0 ? "" : ",").append(method.getParameterTypes()[i].getSimpleName());
        }
        line.append(')');
        for (Class<?> thrown : method.getExceptionTypes()) {
            line.append(' ').append(thrown.getSimpleName());
        }
        return line.toString();
    }
}
