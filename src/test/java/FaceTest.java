import java.lang.reflect.Constructor;
import java.lang.reflect.Field;
import java.lang.reflect.Method;
import java.lang.reflect.Modifier;
import java.nio.file.Files;
import java.nio.file.Path;
import java.util.List;
import java.util.Set;
import java.util.TreeSet;

/** The public face: the class has the members of the document and shows no other. */
public final class FaceTest {
    /** Word for word, for the names of the arguments are of the face too. */
    private static final List<String> SIGNATURES = List.of(
            "public final class HolKernel", "public HolKernel(int maxTerms, int maxThms)",
            "public int mkFun(int d, int c)", "public int typeArg(int ty, int which)",
            "public int typeCount()", "public int mkVar(int id, int ty)", "public int mkEq(int a)",
            "public int mkComb(int f, int x)", "public int mkAbs(int v, int s)",
            "public int termType(int t)", "public int termSize(int t)",
            "public int termNode(int t, int pos)", "public int rule(int kind, int a, int b, int c)",
            "public int hypCount(int th)", "public int thmSize(int th, int part)",
            "public int thmNode(int th, int part, int pos)",
            "public boolean thmPartIs(int th, int part, int t)");

    private static final Set<String> METHODS = Set.of(
            "int mkFun(int,int)", "int typeArg(int,int)", "int typeCount()", "int mkVar(int,int)",
            "int mkEq(int)", "int mkComb(int,int)", "int mkAbs(int,int)", "int termType(int)",
            "int termSize(int)", "int termNode(int,int)", "int rule(int,int,int,int)",
            "int hypCount(int)", "int thmSize(int,int)", "int thmNode(int,int,int)",
            "boolean thmPartIs(int,int,int)");

    private static final Set<String> CONSTANTS = Set.of(
            "BOOL=0", "TY_A=1", "TY_B=2", "MAX_TYPES=48", "MAX_SIZE=32", "MAX_HYPS=3",
            "MAX_VAR_ID=15", "MAX_STEPS=64", "NODE_VAR=1", "NODE_EQ=2", "NODE_COMB=3",
            "NODE_ABS=4", "NODE_BOUND=5", "R_REFL=1", "R_TRANS=2", "R_MK_COMB=3", "R_ABS=4",
            "R_BETA=5", "R_BETA_NORM=6", "R_ASSUME=7", "R_EQ_MP=8", "R_DEDUCT_ANTISYM=9",
            "R_INST=10");

    public static void main(String[] args) throws Exception {
        String source = Files.readString(Path.of("src/main/java/HolKernel.java"));
        for (String signature : SIGNATURES) {
            Due.is("the source has " + signature, source.contains(signature + " {\n"), true);
        }
        for (String constant : CONSTANTS) {
            String line = "public static final int " + constant.replace("=", " = ") + ";\n";
            Due.is("the source has " + constant, source.contains(line), true);
        }
        Due.same("class modifiers", Modifier.toString(HolKernel.class.getModifiers()),
                "public final");
        Due.same("methods", new TreeSet<>(visibleMethods()), new TreeSet<>(METHODS));
        Due.same("constants", new TreeSet<>(visibleFields()), new TreeSet<>(CONSTANTS));
        Constructor<?>[] constructors = HolKernel.class.getDeclaredConstructors();
        Due.is("constructors", constructors.length, 1);
        Due.same("constructor", constructors[0].toString(), "public HolKernel(int,int)");
        Due.is("nested classes", HolKernel.class.getDeclaredClasses().length, 0);
        Due.end();
    }

    private static Set<String> visibleMethods() {
        Set<String> found = new TreeSet<>();
        for (Method m : HolKernel.class.getDeclaredMethods()) {
            if (!Modifier.isPrivate(m.getModifiers())) {
                found.add(m.toString().replace("public ", "").replace("HolKernel.", ""));
            }
        }
        return found;
    }

    private static Set<String> visibleFields() throws IllegalAccessException {
        Set<String> found = new TreeSet<>();
        for (Field f : HolKernel.class.getDeclaredFields()) {
            if (!Modifier.isPrivate(f.getModifiers())) {
                boolean constant = Modifier.toString(f.getModifiers()).equals("public static final")
                        && f.getType() == int.class;
                found.add(f.getName() + "=" + (constant ? f.getInt(null) : "not a constant"));
            }
        }
        return found;
    }
}
