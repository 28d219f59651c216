import java.lang.reflect.Constructor;
import java.lang.reflect.Field;
import java.lang.reflect.Method;
import java.lang.reflect.Modifier;
import java.util.Arrays;
import java.util.Set;
import java.util.TreeSet;

/** The public face of the document, and nothing beside it; LANGUAGE.md's rules that a test can see. */
public final class FaceTest {
    private static final String[] FACE = {"int feed int int int int int", "int end int", "int web", "int fault int",
        "int knot int int", "int plea int", "int item int int", "int verdict int", "int hour int", "int hear int",
        "int plead int int", "int drop int int", "int grab int", "int spin int", "boolean undo", "boolean redo",
        "int shortest int int", "int honest int int", "int way int", "int round", "int term int", "int leave int",
        "int contrary int", "int hopeless", "int rivals int int", "int bridge int", "int forbid int", "int swap int",
        "int advice int int", "int free", "int reach", "int fashion", "int likeliest", "int loophole int",
        "int precedent int", "int odds int int", "int lies int", "int heard int int boolean", "boolean untell int",
        "int later int", "int fits int", "int sure int int", "int ask int int", "int image int", "int restore int",
        "int about int"};

    public static void main(String[] args) {
        Check.due("NONE", WebCourt.NONE, -1);
        Check.due("public and final", WebCourt.class.getModifiers(), Modifier.PUBLIC | Modifier.FINAL);
        methods();
        fields();
        constructors();
        nested();
        Check.finish();
    }

    private static void methods() {
        Set<String> due = new TreeSet<>(Arrays.asList(FACE));
        Set<String> names = new TreeSet<>();
        for (String line : FACE) {
            names.add(line.split(" ")[1]);
        }
        for (Method method : WebCourt.class.getDeclaredMethods()) {
            StringBuilder line = new StringBuilder(method.getReturnType() + " " + method.getName());
            for (Class<?> type : method.getParameterTypes()) {
                line.append(' ').append(type);
            }
            boolean isPrivate = Modifier.isPrivate(method.getModifiers());
            if (isPrivate) {
                Check.due("private " + line + " bears a public name", names.contains(method.getName()), false);
            } else {
                Check.due("public " + line, due.remove(line.toString()), true);
                Check.due("modifiers of " + line, method.getModifiers(), Modifier.PUBLIC);
            }
        }
        Check.due("methods that are missed: " + due, due.size(), 0);
    }

    private static void fields() {
        for (Field field : WebCourt.class.getDeclaredFields()) {
            int modifiers = field.getModifiers();
            boolean isNone = field.getName().equals("NONE");
            Check.due(field + " is private", Modifier.isPrivate(modifiers), !isNone);
            if (Modifier.isStatic(modifiers)) {
                Check.due(field + " is final", Modifier.isFinal(modifiers), true);
            }
        }
    }

    private static void constructors() {
        Constructor<?>[] all = WebCourt.class.getDeclaredConstructors();
        Check.due("constructors", all.length, 1);
        Check.due("parameters of the constructor", all[0].getParameterCount(), 0);
        Check.due("public constructor", Modifier.isPublic(all[0].getModifiers()), true);
    }

    private static void nested() {
        Class<?>[] classes = WebCourt.class.getDeclaredClasses();
        Check.due("at most some twelve classes", classes.length <= 11, true);
        for (Class<?> type : classes) {
            Check.due(type + " is static", Modifier.isStatic(type.getModifiers()), true);
            Check.due(type + " is not public", Modifier.isPublic(type.getModifiers()), false);
            int fields = 0;
            for (Field field : type.getDeclaredFields()) {
                fields += Modifier.isStatic(field.getModifiers()) ? 0 : 1;
            }
            Check.due(type + " has some twenty fields at most", fields <= 20, true);
            for (Method method : type.getDeclaredMethods()) {
                Check.due(method + " has seven parameters at most", method.getParameterCount() <= 7, true);
            }
        }
    }
}
