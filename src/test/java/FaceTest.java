import java.lang.reflect.Constructor;
import java.lang.reflect.Field;
import java.lang.reflect.Method;
import java.lang.reflect.Modifier;
import java.util.Arrays;
import java.util.TreeSet;

/** The class shows the document's face and nothing else. */
public final class FaceTest {
    private static final String[] METHODS = {
        "boolean put(int)", "boolean type(long,int)", "int clear()", "int process(int,boolean)", "int length()",
        "int at(int)", "int labels()", "int broken(int)", "int pack()", "boolean unpack()", "int compose()"};
    private static final String[] CONSTANTS = {
        "BAD=-1", "STRICT=1", "OLD=2", "HYPHENS=4", "JOINERS=8", "BIDI=16", "LENGTH=32"};

    public static void main(String[] args) throws Exception {
        Due.due("modifiers", HostNames.class.getModifiers(), Modifier.PUBLIC | Modifier.FINAL);
        TreeSet<String> methods = new TreeSet<>();
        for (Method method : HostNames.class.getDeclaredMethods()) {
            if (!Modifier.isPrivate(method.getModifiers()) && !method.isSynthetic()) {
                String parameters = method.toGenericString().replaceAll(".*\\(|\\).*", "").replace(", ", ",");
                methods.add(method.getReturnType() + " " + method.getName() + "(" + parameters + ")");
                Due.due("public " + method, method.getModifiers(), Modifier.PUBLIC);
            }
        }
        Due.due("methods", methods.toString(), new TreeSet<>(Arrays.asList(METHODS)).toString());
        TreeSet<String> constants = new TreeSet<>();
        for (Field field : HostNames.class.getDeclaredFields()) {
            if (!Modifier.isPrivate(field.getModifiers()) && !field.isSynthetic()) {
                constants.add(field.getName() + "=" + field.getInt(null));
                int wanted = Modifier.PUBLIC | Modifier.STATIC | Modifier.FINAL;
                Due.due("constant " + field, field.getModifiers(), wanted);
            }
        }
        Due.due("constants", constants.toString(), new TreeSet<>(Arrays.asList(CONSTANTS)).toString());
        Constructor<?>[] constructors = HostNames.class.getDeclaredConstructors();
        Due.due("constructors", constructors.length, 1);
        Due.due("constructor's parameters", constructors[0].getParameterCount(), 0);
        Due.due("constructor's modifiers", constructors[0].getModifiers(), Modifier.PUBLIC);
        Due.end();
    }
}
