import java.lang.reflect.Constructor;
import java.lang.reflect.Field;
import java.lang.reflect.Method;
import java.lang.reflect.Modifier;
import java.util.Arrays;
import java.util.Set;
import java.util.TreeSet;

/** The public face: every constant, constructor and method of the document, and no other. */
public final class FaceTest {
    private static final Set<String> CONSTANTS = new TreeSet<>(Set.of(
            "OP_LDI=1", "OP_ADD=2", "OP_SUB=3", "OP_MUL=4", "OP_LOAD=5", "OP_STORE=6",
            "EDGE_TRUE=1", "EDGE_ANTI=2", "EDGE_OUTPUT=4",
            "CHK_EMPTY=-1", "CHK_UNSET=-2", "CHK_DEP=-3", "CHK_WIDTH=-4", "CHK_MEM=-5", "CHK_MUL=-6",
            "MAX_INSTR=10", "MAX_CYCLE=64", "ISSUE_WIDTH=2", "LOCS=16"));
    private static final Set<String> METHODS = new TreeSet<>(Set.of(
            "int addInstr[int, int, int, int]", "void clear[]", "boolean setInit[int, int]",
            "boolean setCycle[int, int]", "int cycleOf[int]", "int schedule[]", "int check[]",
            "int run[]", "int seqValue[int]", "int machValue[int]", "int edgeKinds[int, int]",
            "int edgeDelay[int, int]", "int criticalPath[]", "int bundleAt[int, int]"));

    public static void main(String[] args) throws IllegalAccessException {
        Due due = new Due();
        same(due, "constants", constants(), CONSTANTS);
        same(due, "methods", methods(), METHODS);
        Constructor<?>[] made = BlockSchedOpt.class.getDeclaredConstructors();
        due.is("constructors", made.length, 1);
        due.is("a public constructor of two ints", Modifier.isPublic(made[0].getModifiers())
                && Arrays.equals(made[0].getParameterTypes(), new Class<?>[] {int.class, int.class}), true);
        due.is("public final class", BlockSchedOpt.class.getModifiers(), Modifier.PUBLIC | Modifier.FINAL);
        due.end();
    }

    private static void same(Due due, String what, Set<String> got, Set<String> want) {
        if (!got.equals(want)) {
            due.fail(what + " are " + got + ", due are " + want);
        }
    }

    private static Set<String> constants() throws IllegalAccessException {
        Set<String> seen = new TreeSet<>();
        for (Field field : BlockSchedOpt.class.getDeclaredFields()) {
            int modifiers = field.getModifiers();
            if (!Modifier.isPrivate(modifiers)) {
                boolean constant = modifiers == (Modifier.PUBLIC | Modifier.STATIC | Modifier.FINAL)
                        && field.getType() == int.class;
                seen.add(field.getName() + (constant ? "=" + field.getInt(null) : " is no constant"));
            }
        }
        return seen;
    }

    private static Set<String> methods() {
        Set<String> seen = new TreeSet<>();
        for (Method method : BlockSchedOpt.class.getDeclaredMethods()) {
            if (!Modifier.isPrivate(method.getModifiers())) {
                String open = method.getModifiers() == Modifier.PUBLIC ? "" : "not plainly public ";
                seen.add(open + method.getReturnType() + " " + method.getName()
                        + Arrays.toString(method.getParameterTypes()));
            }
        }
        return seen;
    }
}
