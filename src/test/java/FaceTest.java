import java.lang.reflect.Constructor;
import java.lang.reflect.Field;
import java.lang.reflect.Method;
import java.lang.reflect.Modifier;
import java.util.TreeSet;

/** The class shows the members of the document's public face and no others. */
public final class FaceTest {
    private static int wrong = 0;

    private static void due(String what, Object got, Object want) {
        if (!got.equals(want)) {
            wrong++;
            System.out.println(what + " is " + got + ", due is " + want);
        }
    }

    private static String parameters(Class<?>[] types) {
        StringBuilder list = new StringBuilder("(");
        for (Class<?> type : types) {
            list.append(list.length() > 1 ? ", " : "").append(type.getName());
        }
        return list.append(")").toString();
    }

    private static void methods(Class<?> face) {
        TreeSet<String> want = new TreeSet<>();
        for (String method : new String[] {"offer(int)", "withdraw(int)", "ready(int, int)", "end()",
                "machineOf(int)", "endOf(int)", "room()", "jobs()"}) {
            want.add("public int " + method);
        }
        TreeSet<String> got = new TreeSet<>();
        TreeSet<String> publicNames = new TreeSet<>();
        TreeSet<String> privateNames = new TreeSet<>();
        for (Method method : face.getDeclaredMethods()) {
            if (Modifier.isPrivate(method.getModifiers())) {
                privateNames.add(method.getName());
            } else {
                publicNames.add(method.getName());
                got.add(Modifier.toString(method.getModifiers()) + " " + method.getReturnType().getName()
                        + " " + method.getName() + parameters(method.getParameterTypes()));
            }
        }
        due("the set of methods that are not private", got, want);
        privateNames.retainAll(publicNames);
        due("the set of private methods with a public one's name", privateNames, new TreeSet<String>());
    }

    private static void constructors(Class<?> face) {
        TreeSet<String> got = new TreeSet<>();
        for (Constructor<?> constructor : face.getDeclaredConstructors()) {
            got.add(Modifier.toString(constructor.getModifiers()) + parameters(constructor.getParameterTypes()));
        }
        TreeSet<String> want = new TreeSet<>();
        want.add("public(int, int)");
        due("the set of constructors", got, want);
    }

    private static void fields(Class<?> face) {
        for (Field field : face.getDeclaredFields()) {
            int modifiers = field.getModifiers();
            due("private of field " + field.getName(), Modifier.isPrivate(modifiers), true);
            if (Modifier.isStatic(modifiers)) {
                boolean number = field.getType() == int.class || field.getType() == long.class;
                due("constant of static field " + field.getName(), number && Modifier.isFinal(modifiers), true);
            }
        }
    }

    public static void main(String[] args) {
        Class<?> face = BatchAdmission.class;
        due("the class's kind", Modifier.toString(face.getModifiers()), "public final");
        due("the class's package", face.getPackageName(), "");
        due("the number of nested classes", face.getDeclaredClasses().length, 0);
        methods(face);
        constructors(face);
        fields(face);
        System.out.println("the public face: " + wrong + " wrong");
        if (wrong != 0) {
            System.exit(1);
        }
    }
}
