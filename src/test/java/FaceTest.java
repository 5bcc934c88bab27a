import java.lang.reflect.Field;
import java.lang.reflect.Method;
import java.lang.reflect.Modifier;
import java.util.TreeSet;

/** The public face: the document's constants, constructor and methods, and no other visible member. */
public final class FaceTest {
    private static final String[] CONSTANTS = {
        "KIND_CHAR=0", "KIND_RANGE=1", "KIND_ANY=2", "KIND_RULE=3",
        "MODE_ONE=0", "MODE_OPT=1", "MODE_STAR=2", "MODE_PLUS=3", "MODE_AND=4", "MODE_NOT=5",
        "COMPILE_OK=0", "COMPILE_FROZEN=1", "COMPILE_BAD_REPEAT=2", "COMPILE_LEFT_RECURSION=3",
        "PARSE_FAIL=-1", "PARSE_REFUSED=-2", "MAX_ALTS=16", "MAX_ITEMS=4", "MAX_NODES=64"};
    private static final String[] METHODS = {
        "int newAlt(int)", "int addItem(int,int,int,int)", "int compile()", "boolean isCompiled()",
        "boolean insertChar(int,char)", "boolean deleteRange(int,int)", "boolean replaceRange(int,int,char)",
        "int textLength()", "int charAt(int)", "int parse(int,int)", "int furthest()", "int nodeCount()",
        "int nodeRule(int)", "int nodeStart(int)", "int nodeEnd(int)", "int nodeParent(int)"};

    private static String signature(Method m) {
        StringBuilder s = new StringBuilder();
        s.append(m.getReturnType().getName()).append(' ').append(m.getName()).append('(');
        Class<?>[] types = m.getParameterTypes();
        for (int i = 0; i < types.length; i++) {
            s.append(i == 0 ? "" : ",").append(types[i].getName());
        }
        return s.append(')').toString();
    }

    private static String sorted(String[] words) {
        return new TreeSet<>(java.util.List.of(words)).toString();
    }

    public static void main(String[] args) throws Exception {
        Checks c = new Checks("FaceTest");
        Class<?> type = IncrementalPackrat.class;
        c.due("modifiers", type.getModifiers(), Modifier.PUBLIC | Modifier.FINAL);
        c.due("package", type.getPackageName(), "");
        c.due("nested classes", type.getDeclaredClasses().length, 0);

        TreeSet<String> constants = new TreeSet<>();
        for (Field f : type.getDeclaredFields()) {
            Class<?> value = f.getType().isArray() ? f.getType().getComponentType() : f.getType();
            c.due("field of whole numbers: " + f.getName(), value.isPrimitive(), true);
            if (Modifier.isStatic(f.getModifiers())) {
                c.due("final: " + f.getName(), Modifier.isFinal(f.getModifiers()), true);
                c.due("no static array: " + f.getName(), f.getType().isArray(), false);
            }
            if (!Modifier.isPrivate(f.getModifiers())) {
                c.due("public static final: " + f.getName(), f.getModifiers(),
                    Modifier.PUBLIC | Modifier.STATIC | Modifier.FINAL);
                c.due("int: " + f.getName(), f.getType() == int.class, true);
                constants.add(f.getName() + "=" + f.getInt(null));
            }
        }
        c.due("constants", constants.toString(), sorted(CONSTANTS));

        TreeSet<String> methods = new TreeSet<>();
        for (Method m : type.getDeclaredMethods()) {
            if (!Modifier.isPrivate(m.getModifiers())) {
                c.due("public: " + m.getName(), m.getModifiers(), Modifier.PUBLIC);
                methods.add(signature(m));
            }
        }
        c.due("methods", methods.toString(), sorted(METHODS));

        c.due("constructors", type.getDeclaredConstructors().length, 1);
        int modifiers = type.getDeclaredConstructor(int.class, int.class).getModifiers();
        c.due("public constructor", modifiers, Modifier.PUBLIC);
        c.end();
    }
}
