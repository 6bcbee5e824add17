import java.lang.reflect.Constructor;
import java.lang.reflect.Field;
import java.lang.reflect.Method;
import java.lang.reflect.Modifier;
import java.util.TreeSet;

/** The public face is the document's and no more, and nothing static can change (LANGUAGE.md, rules 1 and 5). */
public final class FaceTest {
    private static final String[] FACE = {
        "int and(int,int) IndexOutOfBoundsException IllegalStateException",
        "int area()",
        "int arrival(int) IndexOutOfBoundsException",
        "boolean arrives(int,int) IndexOutOfBoundsException IllegalArgumentException",
        "int cell(int,int,int) IllegalStateException IllegalArgumentException",
        "void clear()",
        "int count(int) IndexOutOfBoundsException",
        "long cut(int,int) IndexOutOfBoundsException",
        "int cuts(int) IndexOutOfBoundsException",
        "boolean delay(int,int,int) IndexOutOfBoundsException IllegalArgumentException",
        "int function(int,int) IndexOutOfBoundsException",
        "int gate(int,int) IndexOutOfBoundsException",
        "int input() IllegalStateException",
        "int mapped(int,int) IndexOutOfBoundsException",
        "int output(int) IndexOutOfBoundsException IllegalStateException",
        "int run()",
        "int value(int,int) IndexOutOfBoundsException",
        "int wanted(int) IndexOutOfBoundsException",
        "int worst()",
    };

    public static void main(String[] args) throws ReflectiveOperationException {
        methods();
        constructors();
        fields(CellMapping.class);
        Checks.due("the only public field", CellMapping.class.getFields().length, 1);
        Checks.due("NONE", CellMapping.class.getField("NONE").getInt(null), -1);
        Checks.due("the class", CellMapping.class.getModifiers(), Modifier.PUBLIC | Modifier.FINAL);
        for (Class<?> inside : CellMapping.class.getDeclaredClasses()) {
            Checks.due(inside + " is static", Modifier.isStatic(inside.getModifiers()), true);
            Checks.due(inside + " is not seen", inside.getModifiers() & (Modifier.PUBLIC | Modifier.PROTECTED), 0);
            fields(inside);
        }
        Checks.end();
    }

    private static void methods() {
        TreeSet<String> seen = new TreeSet<>();
        TreeSet<String> publicNames = new TreeSet<>();
        for (Method method : CellMapping.class.getDeclaredMethods()) {
            if (Modifier.isPublic(method.getModifiers())) {
                seen.add(textOf(method));
                publicNames.add(method.getName());
            }
        }
        for (Method method : CellMapping.class.getDeclaredMethods()) {
            if (!Modifier.isPublic(method.getModifiers())) {
                Checks.due(method + " is private", Modifier.isPrivate(method.getModifiers()), true);
                Checks.due(method + " has a public name", publicNames.contains(method.getName()), false);
            }
        }
        TreeSet<String> want = new TreeSet<>();
        for (String line : FACE) {
            want.add(line);
        }
        Checks.due("the methods", seen.toString(), want.toString());
    }

    private static void constructors() {
        Constructor<?>[] all = CellMapping.class.getDeclaredConstructors();
        Checks.due("constructors", all.length, 1);
        Checks.due("it is public", Modifier.isPublic(all[0].getModifiers()), true);
        Checks.due("its parameters", all[0].getParameterCount(), 0);
    }

    private static void fields(Class<?> of) {
        for (Field field : of.getDeclaredFields()) {
            int modifiers = field.getModifiers();
            if (Modifier.isStatic(modifiers)) {
                Checks.due(field + " is final", Modifier.isFinal(modifiers), true);
            } else if (of == CellMapping.class) {
                Checks.due(field + " is private", Modifier.isPrivate(modifiers), true);
            }
        }
    }

    private static String textOf(Method method) {
        StringBuilder text = new StringBuilder(method.getReturnType().getName());
        text.append(' ').append(method.getName()).append('(');
        for (Class<?> parameter : method.getParameterTypes()) {
            text.append(text.charAt(text.length() - 1) == '(' ? "" : ",").append(parameter.getName());
        }
        text.append(')');
        for (Class<?> thrown : method.getExceptionTypes()) {
            text.append(' ').append(thrown.getSimpleName());
        }
        return text.toString();
    }
}
