import java.lang.reflect.Constructor;
import java.lang.reflect.Field;
import java.lang.reflect.Method;
import java.lang.reflect.Modifier;
import java.util.Arrays;
import java.util.TreeSet;

/** The class shows the document's face and nothing else (rule 1 of LANGUAGE.md). */
public final class FaceTest {
    private static final String[] METHODS = {
        "int poke(int,int)", "int verify()", "int place()", "int setLocal(int,int)", "void start()", "int run(int)",
        "int state()", "int address()", "int local(int)", "int memory(int)", "int height()", "int stack(int)",
        "int emitted()", "int output(int)", "long steps(int)", "int heat(int)", "int traces()", "int traceAt(int)",
        "int trace(int,int)", "int guard(int,int,int)", "int recording()", "boolean invalidate(int)", "void reset()"};
    private static final String[] CONSTANTS = {"LOADING", "READY", "RUNNING", "HALTED", "BROKEN"};

    public static void main(String[] args) throws Exception {
        Class<?> face = LoopTracer.class;
        Check.same("public and final", Modifier.toString(face.getModifiers()), "public final");
        TreeSet<String> shown = new TreeSet<>();
        TreeSet<String> names = new TreeSet<>();
        for (Method m : face.getDeclaredMethods()) {
            if (!Modifier.isPrivate(m.getModifiers())) {
                shown.add(m.getReturnType() + " " + m.getName() + "("
                        + String.join(",", Arrays.stream(m.getParameterTypes()).map(Class::toString).toList()) + ")");
                names.add(m.getName());
                Check.same(m + " is public", Modifier.toString(m.getModifiers()), "public");
            }
        }
        Check.same("methods", shown, new TreeSet<>(Arrays.asList(METHODS)));
        for (Method m : face.getDeclaredMethods()) {
            boolean hidden = Modifier.isPrivate(m.getModifiers());
            Check.same(m + " bears no public name", hidden && names.contains(m.getName()), false);
        }
        TreeSet<String> fields = new TreeSet<>();
        for (Field f : face.getDeclaredFields()) {
            if (!Modifier.isPrivate(f.getModifiers())) {
                fields.add(f.getName());
                Check.same(f.getName(), Modifier.toString(f.getModifiers()), "public static final");
            }
        }
        Check.same("constants", fields, new TreeSet<>(Arrays.asList(CONSTANTS)));
        for (int i = 0; i < CONSTANTS.length; i++) {
            Check.same(CONSTANTS[i], face.getField(CONSTANTS[i]).getInt(null), i);
        }
        Constructor<?>[] made = face.getDeclaredConstructors();
        Check.same("one constructor", made.length, 1);
        Check.same("of an int", made[0].toString(), "public LoopTracer(int)");
        for (Class<?> inside : face.getDeclaredClasses()) {
            Check.same(inside + " is static", Modifier.isStatic(inside.getModifiers()), true);
            Check.same(inside + " is private", Modifier.isPrivate(inside.getModifiers()), true);
        }
        Check.finish("FaceTest");
    }
}
