import java.lang.reflect.Constructor;
import java.lang.reflect.Field;
import java.lang.reflect.Method;
import java.lang.reflect.Modifier;
import java.util.Arrays;
import java.util.Set;
import java.util.TreeSet;

/** The public face: each member of the document, and none besides it that is not private. */
public final class FaceTest {
    private static final String CONSTANTS = "AND=0 BAD_INDEX=-4 BAD_KIND=-2 BAD_LENGTH=-3 BAD_VECTOR=-1 COMPRESS=5 "
        + "EXPAND=6 JOIN=4 MESH=7 NOT=0 OR=1 PLUS=3 REVERSE=1 ROTATE=2 SCAN_AND=6 SCAN_OR=7 SCAN_XOR=8 SHIFT=3 "
        + "STRETCH=5 TAKE=4 XOR=2";
    private static final String METHODS = "boolean get 2, int change 4, int combine 4, int compare 2, int count 3, "
        + "int findRun 3, int length 1, int make 2, int place 2, int put 4";

    private static String constants() throws IllegalAccessException {
        Set<String> found = new TreeSet<>();
        for (Field field : BitVectorWords.class.getDeclaredFields()) {
            if (!Modifier.isPrivate(field.getModifiers())) {
                Check.due("modifiers of " + field.getName(), Modifier.toString(field.getModifiers()),
                    "public static final");
                Check.due("type of " + field.getName(), field.getType(), int.class);
                found.add(field.getName() + "=" + field.getInt(null));
            }
        }
        return String.join(" ", found);
    }

    private static String methods() {
        Set<String> found = new TreeSet<>();
        for (Method method : BitVectorWords.class.getDeclaredMethods()) {
            if (!Modifier.isPrivate(method.getModifiers())) {
                Check.due("modifiers of " + method.getName(), Modifier.toString(method.getModifiers()), "public");
                for (Class<?> parameter : method.getParameterTypes()) {
                    Check.due("a parameter of " + method.getName(), parameter, int.class);
                }
                found.add(method.getReturnType() + " " + method.getName() + " " + method.getParameterCount());
            }
        }
        return String.join(", ", found);
    }

    public static void main(String[] args) throws IllegalAccessException {
        Check.due("modifiers of the class", Modifier.toString(BitVectorWords.class.getModifiers()), "public final");
        Check.due("constants", constants(), CONSTANTS);
        Check.due("methods", methods(), METHODS);
        Constructor<?>[] constructors = BitVectorWords.class.getDeclaredConstructors();
        Check.due("constructors", Arrays.toString(constructors), "[public BitVectorWords()]");
        Check.due("nested classes", BitVectorWords.class.getDeclaredClasses().length, 0);
        Check.end();
    }
}
