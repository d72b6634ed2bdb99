import java.lang.reflect.Constructor;
import java.lang.reflect.Field;
import java.lang.reflect.Method;
import java.lang.reflect.Modifier;
import java.util.Set;
import java.util.TreeSet;

/** The public face is the document's, to the letter, and nothing else can be seen from outside. */
public final class FaceTest {
    private static final String INDEX = "IndexOutOfBoundsException";
    private static final String ARGUMENT = "IllegalArgumentException";
    private static final String STATE = "IllegalStateException";

    private static int wrong = 0;

    public static void main(String[] args) {
        Set<String> due = new TreeSet<>();
        due.add("int node(int) " + ARGUMENT + " " + STATE);
        due.add("int link(int int int) " + INDEX + " " + ARGUMENT + " " + STATE);
        due.add("int fail(int boolean) " + INDEX);
        due.add("int part(int int) " + ARGUMENT + " " + STATE);
        due.add("int line(int int int) " + INDEX + " " + ARGUMENT + " " + STATE);
        due.add("int clear()");
        due.add("int place(int int) " + ARGUMENT + " " + STATE);
        due.add("void end(int) " + INDEX + " " + STATE);
        due.add("int move(int int int) " + INDEX + " " + ARGUMENT + " " + STATE);
        due.add("int pass(int) " + ARGUMENT);
        due.add("int now()");
        due.add("int ofNode(int int) " + INDEX + " " + ARGUMENT);
        due.add("int ofLink(int int) " + INDEX + " " + ARGUMENT);
        due.add("int load(int int) " + INDEX + " " + ARGUMENT);
        due.add("int told(int int) " + INDEX + " " + ARGUMENT);
        due.add("int at(int int) " + INDEX);
        due.add("int way(int int int) " + INDEX + " " + ARGUMENT);
        due.add("int least()");
        due.add("int leastAnew()");
        due.add("int freeing()");
        Set<String> got = new TreeSet<>();
        for (Method method : MeshLodger.class.getDeclaredMethods()) {
            if (!Modifier.isPrivate(method.getModifiers()) && !method.isSynthetic()) {
                same("modifiers of " + method.getName(), method.getModifiers(), Modifier.PUBLIC);
                got.add(written(method));
            }
        }
        same("the methods", got, due);
        same("the class", MeshLodger.class.getModifiers(), Modifier.PUBLIC | Modifier.FINAL);
        constants();
        constructors();
        privateNames(got);
        System.out.println(wrong == 0 ? "the face is the document's" : wrong + " things of the face are wrong");
        System.exit(wrong == 0 ? 0 : 1);
    }

    private static void constants() {
        Set<String> names = new TreeSet<>();
        for (Field field : MeshLodger.class.getDeclaredFields()) {
            if (!Modifier.isPrivate(field.getModifiers())) {
                names.add(field.getName());
                same("modifiers of " + field.getName(), field.getModifiers(),
                        Modifier.PUBLIC | Modifier.STATIC | Modifier.FINAL);
                same("type of " + field.getName(), field.getType(), int.class);
            }
        }
        same("the constants", names.toString(), "[NONE, PLAIN, SAFE, SPLIT]");
        same("NONE", MeshLodger.NONE, -1);
        same("PLAIN", MeshLodger.PLAIN, 0);
        same("SPLIT", MeshLodger.SPLIT, 1);
        same("SAFE", MeshLodger.SAFE, 2);
    }

    private static void constructors() {
        Constructor<?>[] all = MeshLodger.class.getDeclaredConstructors();
        same("how many constructors", all.length, 1);
        same("the constructor", all[0].toString(), "public MeshLodger()");
    }

    private static void privateNames(Set<String> face) {
        Set<String> names = new TreeSet<>();
        for (String method : face) {
            names.add(method.substring(method.indexOf(' ') + 1, method.indexOf('(')));
        }
        for (Class<?> inside : MeshLodger.class.getDeclaredClasses()) {
            same("static, " + inside.getName(), Modifier.isStatic(inside.getModifiers()), true);
            for (Method method : inside.getDeclaredMethods()) {
                same("a name of the face in " + inside.getName(), names.contains(method.getName()), false);
            }
        }
    }

    private static String written(Method method) {
        StringBuilder text = new StringBuilder(method.getReturnType() + " " + method.getName() + "(");
        for (Class<?> type : method.getParameterTypes()) {
            text.append(text.charAt(text.length() - 1) == '(' ? "" : " ").append(type);
        }
        text.append(")");
        for (Class<?> type : method.getExceptionTypes()) {
            text.append(" ").append(type.getSimpleName());
        }
        return text.toString();
    }

    private static void same(String what, Object got, Object due) {
        if (!got.equals(due)) {
            wrong++;
            System.out.println(what + ": " + got + ", due is " + due);
        }
    }
}
