import java.lang.reflect.Constructor;
import java.lang.reflect.Field;
import java.lang.reflect.Method;
import java.lang.reflect.Modifier;
import java.util.Arrays;
import java.util.TreeSet;

/** The public face is the document's and no more; private methods bear other names (LANGUAGE.md, rule 1). */
public final class FaceTest {
    private static final String[] METHODS = {
        "int write(int,long)", "int wipe()", "int fault()", "int place()", "int body(int,int)", "int hill(int,int)",
        "int put(int,int,int)", "int move(int,int,int)", "int take(int)", "int back()", "int shadow(int,int)",
        "int dark(int,int)", "int runs(int,int)", "int run(int,int,int,int)", "int alone(int)", "int counted(int,int)",
        "int best(int)", "int hide(int)", "int sight(int,int)", "int unsee()", "int fits()", "int people(boolean)",
        "int sure()", "int next()", "int keep(int)", "int again(int)", "int count(int)"};
    private static final String[] CONSTANTS = {"UNKNOWN=-1", "OUTSIDE=-2", "STATE=-3", "FULL=-4", "NONE=-9"};

    public static void main(String[] args) throws IllegalAccessException {
        Check check = new Check("FaceTest");
        Class<?> face = ShadowCount.class;
        check.holds("public and final", Modifier.isPublic(face.getModifiers()) && Modifier.isFinal(face.getModifiers()));
        TreeSet<String> methods = new TreeSet<>();
        TreeSet<String> names = new TreeSet<>();
        for (Method m : face.getDeclaredMethods()) {
            if (!Modifier.isPrivate(m.getModifiers())) {
                String parameters = Arrays.stream(m.getParameterTypes()).map(Class::getSimpleName)
                    .reduce((a, b) -> a + "," + b).orElse("");
                methods.add(m.getReturnType().getSimpleName() + " " + m.getName() + "(" + parameters + ")");
                names.add(m.getName());
                check.holds(m + " is public, not static", Modifier.isPublic(m.getModifiers()) && !Modifier.isStatic(m.getModifiers()));
            }
        }
        check.holds("methods: " + methods, methods.equals(new TreeSet<>(Arrays.asList(METHODS))));
        TreeSet<String> constants = new TreeSet<>();
        for (Field f : face.getDeclaredFields()) {
            if (!Modifier.isPrivate(f.getModifiers())) {
                constants.add(f.getName() + "=" + f.getInt(null));
                check.holds(f + " is a constant", Modifier.isPublic(f.getModifiers()) && Modifier.isFinal(f.getModifiers()));
            }
        }
        check.holds("constants: " + constants, constants.equals(new TreeSet<>(Arrays.asList(CONSTANTS))));
        Constructor<?>[] constructors = face.getDeclaredConstructors();
        check.holds("one public constructor without parameters", constructors.length == 1
            && Modifier.isPublic(constructors[0].getModifiers()) && constructors[0].getParameterCount() == 0);
        checkOthers(check, face, names);
        check.end();
    }

    private static void checkOthers(Check check, Class<?> face, TreeSet<String> names) {
        for (Method m : face.getDeclaredMethods()) {
            check.holds(m + " bears another name", !Modifier.isPrivate(m.getModifiers()) || !names.contains(m.getName()));
        }
        check.holds("some twelve classes", face.getDeclaredClasses().length <= 11);
        for (Class<?> inside : face.getDeclaredClasses()) {
            check.holds(inside + " is static, not public", Modifier.isStatic(inside.getModifiers())
                && !Modifier.isPublic(inside.getModifiers()) && !Modifier.isProtected(inside.getModifiers()));
            check.holds(inside + " has some twenty fields", inside.getDeclaredFields().length <= 20);
            for (Method m : inside.getDeclaredMethods()) {
                check.holds(m + " bears another name", !names.contains(m.getName()));
                check.holds(m + " has seven parameters at most", m.getParameterCount() <= 7);
            }
        }
    }
}
