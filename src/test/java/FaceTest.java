import java.lang.reflect.Constructor;
import java.lang.reflect.Field;
import java.lang.reflect.Method;
import java.lang.reflect.Modifier;
import java.util.Arrays;
import java.util.TreeSet;

/** Tests that the class has the document's face, with its throws clauses, and nothing beside it. */
public final class FaceTest {
    private static final String[] FACE = {
        "int put(int,int,int) IndexOutOfBoundsException IllegalArgumentException",
        "int copy(int,int) IndexOutOfBoundsException",
        "int divide(int,int) IndexOutOfBoundsException IllegalArgumentException",
        "int root(int) IllegalArgumentException",
        "int unroot()",
        "int lower(int) IndexOutOfBoundsException",
        "int append(int) IllegalArgumentException IllegalStateException",
        "int clearBuffer()",
        "int firstError()",
        "int load(int) IndexOutOfBoundsException IllegalArgumentException",
        "int keep(int) IllegalArgumentException",
        "int goBack(int) IllegalArgumentException IllegalStateException",
        "int undo() IllegalStateException",
        "int sign(int,int) IndexOutOfBoundsException IllegalArgumentException",
        "int of(int,int) IndexOutOfBoundsException IllegalArgumentException",
        "int isRoot(int,int) IndexOutOfBoundsException IllegalArgumentException",
        "int times(int,int,int) IndexOutOfBoundsException IllegalArgumentException",
        "int quotients(int,int) IndexOutOfBoundsException IllegalArgumentException",
        "int best(int,int) IndexOutOfBoundsException IllegalArgumentException",
        "int many(int,int,int) IndexOutOfBoundsException IllegalArgumentException",
        "int isIn(int,int,int,int) IndexOutOfBoundsException IllegalArgumentException",
        "long coefficient(int) IllegalArgumentException",
        "int count(int) IllegalArgumentException",
        "double takenShare(int) IndexOutOfBoundsException",
        "long digest()",
    };

    private static int wrong = 0;

    public static void main(String[] args) throws ReflectiveOperationException {
        int modifiers = SignRoots.class.getModifiers();
        due("public and final", Modifier.isPublic(modifiers) && Modifier.isFinal(modifiers), true);
        due("package", SignRoots.class.getPackageName(), "");
        methods();
        fields();
        Constructor<?>[] constructors = SignRoots.class.getDeclaredConstructors();
        due("constructors", constructors.length, 1);
        due("constructor is public", Modifier.isPublic(constructors[0].getModifiers()), true);
        due("parameters of the constructor", constructors[0].getParameterCount(), 0);
        for (Class<?> inside : SignRoots.class.getDeclaredClasses()) {
            int held = inside.getModifiers();
            due(inside + " is static", Modifier.isStatic(held), true);
            due(inside + " is hidden", Modifier.isPublic(held) || Modifier.isProtected(held), false);
        }
        System.out.println(wrong == 0 ? "the face is the document's" : wrong + " parts of the face are wrong");
        if (wrong != 0) {
            System.exit(1);
        }
    }

    private static void due(String what, Object got, Object want) {
        if (!got.equals(want)) {
            wrong++;
            System.out.println(what + " is " + got + ", due is " + want);
        }
    }

    private static String told(Method method) {
        StringBuilder text = new StringBuilder(method.getReturnType() + " " + method.getName() + "(");
        for (int i = 0; i < method.getParameterCount(); i++) {
            text.append(i == 0 ? "" : ",").append(method.getParameterTypes()[i]);
        }
        text.append(")");
        for (Class<?> exception : method.getExceptionTypes()) {
            text.append(" ").append(exception.getSimpleName());
        }
        return text.toString();
    }

    private static void methods() {
        TreeSet<String> open = new TreeSet<>();
        TreeSet<String> openNames = new TreeSet<>();
        for (Method method : SignRoots.class.getDeclaredMethods()) {
            if (!Modifier.isPrivate(method.getModifiers()) && !method.isSynthetic()) {
                open.add(told(method));
                openNames.add(method.getName());
                due(method.getName() + " is public", Modifier.isPublic(method.getModifiers()), true);
                due(method.getName() + " is static", Modifier.isStatic(method.getModifiers()), false);
            }
        }
        due("the methods", open, new TreeSet<>(Arrays.asList(FACE)));
        for (Method method : SignRoots.class.getDeclaredMethods()) {
            if (Modifier.isPrivate(method.getModifiers())) {
                due(method.getName() + " bears a public name", openNames.contains(method.getName()), false);
            }
        }
    }

    private static void fields() throws ReflectiveOperationException {
        for (Field field : SignRoots.class.getDeclaredFields()) {
            int modifiers = field.getModifiers();
            boolean isNone = field.getName().equals("NONE");
            due(field.getName() + " is private", Modifier.isPrivate(modifiers), !isNone);
            due(field.getName() + " is final, if static",
                !Modifier.isStatic(modifiers) || Modifier.isFinal(modifiers), true);
        }
        Field none = SignRoots.class.getDeclaredField("NONE");
        due("NONE", none.getInt(null), -9);
        due("NONE is public, static and final", none.getModifiers(),
            Modifier.PUBLIC | Modifier.STATIC | Modifier.FINAL);
    }
}
