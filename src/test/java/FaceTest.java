import java.lang.reflect.Constructor;
import java.lang.reflect.Field;
import java.lang.reflect.Method;
import java.lang.reflect.Modifier;
import java.util.Map;
import java.util.Set;
import java.util.TreeMap;
import java.util.TreeSet;

/** The public face: every constant and signature of the document, and no other visible member. */
public final class FaceTest {
    private static final String[] METHODS = {
        "int addNode(int,int,int,int)", "void setScript(long)", "long script()", "int run(int)",
        "int lastOutcome()", "int lastException()", "int lastValue()", "void resetThunks()",
        "int nodeCount()", "int capacity()", "int nodeKind(int)", "int nodeState(int)",
        "int nodeValue(int)", "int denKind(int)", "int denSet(int)", "int denValue(int)",
    };

    private static Map<String, Integer> constants() {
        Map<String, Integer> due = new TreeMap<>();
        String[] kinds = {"CONST", "RAISE", "ADD", "SUB", "MUL", "DIV", "LT", "IF", "SEQ", "PAIR", "FST", "SND"};
        for (int i = 0; i < kinds.length; i++) {
            due.put("K_" + kinds[i], i);
        }
        String[] codes = {"DIVZERO", "TYPE", "LOOP", "MISSING", "USER_MIN"};
        for (int i = 0; i < codes.length; i++) {
            due.put("EXC_" + codes[i], i + 1);
        }
        due.put("EXC_USER_MAX", 15);
        due.put("ALL_EXC", 0xFFFE);
        due.put("R_NONE", 0);
        due.put("R_INT", 1);
        due.put("R_PAIR", 2);
        due.put("R_EXC", 3);
        due.put("ST_UNEVAL", 3);
        due.put("MIN_CAP", 8);
        due.put("MAX_CAP", 32);
        return due;
    }

    private static String signature(Method m) {
        StringBuilder types = new StringBuilder();
        for (Class<?> type : m.getParameterTypes()) {
            types.append(types.length() == 0 ? "" : ",").append(type);
        }
        return m.getReturnType() + " " + m.getName() + "(" + types + ")";
    }

    private static void constantsAreAsDue(Due due) throws IllegalAccessException {
        Map<String, Integer> want = constants();
        for (Field f : ImpreciseRaise.class.getDeclaredFields()) {
            boolean constant = Modifier.isStatic(f.getModifiers()) && Modifier.isFinal(f.getModifiers());
            if (Modifier.isPrivate(f.getModifiers())) {
                boolean number = f.getType() == int.class || f.getType() == long.class;
                boolean allowed = !Modifier.isStatic(f.getModifiers()) || (constant && number);
                due.is("private field " + f.getName() + " allowed", allowed ? 1 : 0, 1);
                continue;
            }
            boolean face = constant && Modifier.isPublic(f.getModifiers()) && f.getType() == int.class;
            due.is("field " + f.getName() + " is a public int constant", face ? 1 : 0, 1);
            Integer value = want.remove(f.getName());
            due.is("field " + f.getName() + " is in the document", value == null ? 0 : 1, 1);
            if (face && value != null) {
                due.is(f.getName(), f.getInt(null), value);
            }
        }
        due.is("constants missing " + want.keySet(), want.size(), 0);
    }

    private static void methodsAreAsDue(Due due) {
        Set<String> want = new TreeSet<>(Set.of(METHODS));
        Set<String> publicNames = new TreeSet<>();
        for (Method m : ImpreciseRaise.class.getDeclaredMethods()) {
            if (Modifier.isPublic(m.getModifiers())) {
                publicNames.add(m.getName());
                due.is(signature(m) + " is in the document", want.remove(signature(m)) ? 1 : 0, 1);
                due.is(signature(m) + " is static", Modifier.isStatic(m.getModifiers()) ? 1 : 0, 0);
            }
        }
        due.is("methods missing " + want, want.size(), 0);
        for (Method m : ImpreciseRaise.class.getDeclaredMethods()) {
            if (!Modifier.isPublic(m.getModifiers())) {
                due.is(signature(m) + " is private", Modifier.isPrivate(m.getModifiers()) ? 1 : 0, 1);
                due.is(signature(m) + " bears a public name", publicNames.contains(m.getName()) ? 1 : 0, 0);
            }
        }
    }

    public static void main(String[] args) throws IllegalAccessException {
        Due due = new Due("FaceTest");
        Class<?> face = ImpreciseRaise.class;
        due.is("public final", face.getModifiers(), Modifier.PUBLIC | Modifier.FINAL);
        due.is("nested classes", face.getDeclaredClasses().length, 0);
        Constructor<?>[] constructors = face.getDeclaredConstructors();
        due.is("constructors", constructors.length, 1);
        due.is("constructor public", Modifier.isPublic(constructors[0].getModifiers()) ? 1 : 0, 1);
        boolean oneInt = constructors[0].getParameterCount() == 1
            && constructors[0].getParameterTypes()[0] == int.class;
        due.is("constructor takes an int", oneInt ? 1 : 0, 1);
        constantsAreAsDue(due);
        methodsAreAsDue(due);
        due.end();
    }
}
