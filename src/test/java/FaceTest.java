import java.lang.reflect.Field;
import java.lang.reflect.Method;
import java.lang.reflect.Modifier;
import java.util.Arrays;
import java.util.Set;
import java.util.TreeSet;

/** The public face is the document's, and there is no other member that others could see. */
public final class FaceTest {
    private static final String[] METHODS = {
        "int unit()", "int hold(int,int,int,int)", "int holds(int,int,int)", "long share(int,int)",
        "long days(int,int,int)", "int row(int,int,int,int,int)", "int told(int,int)",
        "int factor(int,int,int,int)", "int factorAs(int,int,int,boolean)",
        "long tons(int,int,boolean,boolean)", "int changed(int,int,int)", "int change(int,int,int,int)",
        "long total(int,int,boolean,boolean,boolean)", "long anew(int,int,int,boolean,boolean,boolean)",
        "long part(int,int,int,boolean,boolean,boolean)", "int doubles(int)", "int onPath(int,int,int,int)",
        "int issue(int,int)", "int move(int,int,int)", "int use(int,int,int)", "int owner(int)",
        "int usedFor(int)", "int free(int)", "int runs()", "int run(int,int)", "int count(int)"};
    private static final String[] CONSTANTS = {"UNKNOWN", "BAD", "STATE", "FULL", "NONE"};

    public static void main(String[] args) {
        Class<?> face = SmokeLedger.class;
        Due.holds("public and final", Modifier.isPublic(face.getModifiers()) && Modifier.isFinal(face.getModifiers()));
        Due.is("constructors", face.getDeclaredConstructors().length, 1);
        Due.is("public constructors", face.getConstructors().length, 1);
        methods(face);
        fields(face);
        for (Class<?> inner : face.getDeclaredClasses()) {
            Due.holds(inner + " is static", Modifier.isStatic(inner.getModifiers()));
            Due.holds(inner + " is private", Modifier.isPrivate(inner.getModifiers()));
            Due.holds(inner + " has few fields", inner.getDeclaredFields().length <= 20);
        }
        Due.is("UNKNOWN", SmokeLedger.UNKNOWN, -1);
        Due.is("BAD", SmokeLedger.BAD, -2);
        Due.is("STATE", SmokeLedger.STATE, -3);
        Due.is("FULL", SmokeLedger.FULL, -4);
        Due.is("NONE", SmokeLedger.NONE, -9);
        Due.finish();
    }

    private static void methods(Class<?> face) {
        Set<String> due = new TreeSet<>(Arrays.asList(METHODS));
        Set<String> names = new TreeSet<>();
        for (Method method : face.getDeclaredMethods()) {
            if (Modifier.isPublic(method.getModifiers())) {
                names.add(method.getName());
                Due.holds("of the document: " + signature(method), due.remove(signature(method)));
            }
        }
        Due.holds("none is missing: " + due, due.isEmpty());
        for (Method method : face.getDeclaredMethods()) {
            if (!Modifier.isPublic(method.getModifiers())) {
                Due.holds(method + " is private", Modifier.isPrivate(method.getModifiers()));
                Due.holds(method + " has a name of its own", !names.contains(method.getName()));
            }
        }
        for (Class<?> inner : face.getDeclaredClasses()) {
            for (Method method : inner.getDeclaredMethods()) {
                Due.holds(method + " has a name of its own", !names.contains(method.getName()));
            }
        }
    }

    private static String signature(Method method) {
        StringBuilder text = new StringBuilder();
        for (Class<?> type : method.getParameterTypes()) {
            text.append(text.length() == 0 ? "" : ",").append(type.getName());
        }
        return method.getReturnType().getName() + " " + method.getName() + "(" + text + ")";
    }

    private static void fields(Class<?> face) {
        Set<String> due = new TreeSet<>(Arrays.asList(CONSTANTS));
        for (Field field : face.getDeclaredFields()) {
            int modifiers = field.getModifiers();
            if (Modifier.isPublic(modifiers)) {
                Due.holds("of the document: " + field, due.remove(field.getName()));
                Due.holds(field + " is a constant int", field.getType() == int.class
                        && Modifier.isStatic(modifiers) && Modifier.isFinal(modifiers));
            } else {
                Due.holds(field + " is private", Modifier.isPrivate(modifiers));
            }
            Due.holds(field + ": static is final", !Modifier.isStatic(modifiers) || Modifier.isFinal(modifiers));
        }
        Due.holds("none is missing: " + due, due.isEmpty());
    }
}
