import java.lang.reflect.Constructor;
import java.lang.reflect.Field;
import java.lang.reflect.Method;
import java.lang.reflect.Modifier;
import java.util.TreeSet;

/** The public face: every constant, the constructor and every method of the document, and nothing else in sight. */
final class FaceTest {
    private static final String CONSTANTS =
        "OK 0 BAD_OP 1 UNDERFLOW 2 FULL 3 LIMIT 4 BAD_MODE 5 BAD_SHAPE 6 HEAP_FULL 7 FUSED 0 MATERIAL 1 "
        + "MAX_NODES 16 MAX_LEN 6 OUT_CAP 256 F_ADD 0 F_SUB 1 F_MUL 2 F_DIV 3 F_MOD 4 F_MIN 5 F_MAX 6 F_NEG 7 F_SQ 8 "
        + "P_EVEN 0 P_ODD 1 P_LT 2 P_GT 3 P_EQ 4 P_NE 5 P_DIVBY 6 "
        + "B_ADD 0 B_SUB 1 B_MUL 2 B_MIN 3 B_MAX 4 B_FST 5 B_SND 6";
    private static final String[] METHODS = {
        "public int range 2", "public int inner 2", "public int map 2", "public int filter 2", "public int take 1",
        "public int drop 1", "public int scan 2", "public int zip 1", "public int concatMap 0", "public void clear 0",
        "public int run 1", "public int outCount 0", "public int out 1", "public int cellsUsed 0",
        "public int stackDepth 0", "public int fragment 1"
    };

    public static void main(String[] args) throws IllegalAccessException {
        Class<?> face = StreamFusion.class;
        Check.due("the class", Modifier.toString(face.getModifiers()), "public final");
        Check.due("its package", face.getPackageName(), "");

        TreeSet<String> constants = new TreeSet<>();
        TreeSet<String> methods = new TreeSet<>();
        TreeSet<String> constructors = new TreeSet<>();
        for (Field f : face.getDeclaredFields()) {
            if (!Modifier.isPrivate(f.getModifiers())) {
                constants.add(Modifier.toString(f.getModifiers()) + " " + f.getType() + " " + f.getName() + " " + f.get(null));
            }
        }
        for (Method m : face.getDeclaredMethods()) {
            if (!Modifier.isPrivate(m.getModifiers())) {
                methods.add(Modifier.toString(m.getModifiers()) + " " + m.getReturnType() + " " + m.getName() + " "
                    + intParameters(m.getParameterTypes()));
            }
        }
        for (Constructor<?> c : face.getDeclaredConstructors()) {
            constructors.add(Modifier.toString(c.getModifiers()) + " " + intParameters(c.getParameterTypes()));
        }

        TreeSet<String> dueConstants = new TreeSet<>();
        String[] words = CONSTANTS.split(" ");
        for (int i = 0; i < words.length; i += 2) {
            dueConstants.add("public static final int " + words[i] + " " + words[i + 1]);
        }
        Check.due("the constants", constants, dueConstants);
        Check.due("the methods", methods, new TreeSet<>(java.util.List.of(METHODS)));
        Check.due("the constructors", constructors, new TreeSet<>(java.util.List.of("public 1")));
        Check.end();
    }

    private static int intParameters(Class<?>[] types) {
        for (Class<?> type : types) {
            Check.due("the type of a parameter", type, int.class);
        }
        return types.length;
    }
}
