import java.lang.reflect.Constructor;
import java.lang.reflect.Field;
import java.lang.reflect.Method;
import java.lang.reflect.Modifier;
import java.util.Arrays;
import java.util.Set;
import java.util.TreeSet;

/** The public face: the constants, the constructor and the methods of the document, and nothing besides. */
public final class FaceTests {
    private static final String[] CONSTANTS = {
        "NO_SUCH_ELEMENT=-1", "BAD_VALUE=-2", "FULL=-3", "NONE=-4", "STATE=-5", "TOO_LARGE=-6", "EMPTY=-7",
        "WRONG_TYPE=-8"};

    /** Each method with its number of parameters, which are all int. */
    private static final String[] METHODS = {
        "int reset 2", "int wires 1", "int size 1", "int comparator 2", "int add 3", "int insert 4", "int remove 2",
        "int layer 2", "int depth 1", "int append 1", "int clearText 0", "int parse 1", "int setKey 2", "int run 1",
        "int result 1", "int origin 1", "int isStable 0", "int outputCount 1", "int outputOf 2", "int isSorter 1",
        "int firstFailure 1", "int isSelector 2", "int countSorted 1", "int firstUnsorted 1", "long totalExchanges 1",
        "int mostExchanges 1", "int isRedundant 2", "int prune 1", "int reduce 1", "int standardize 1",
        "int mirror 1", "int candidate 3", "int grow 1", "int missing 2", "int sameOutputs 2", "int isIsomorphic 2",
        "int subsumes 2", "int build 3", "int isMerger 2", "int concatenate 3", "int beside 3", "int undo 0",
        "int place 4", "int discard 1", "int castBlock 2", "int blockSize 2", "int applyBlock 2"};

    private static int wrong = 0;

    private static void due(String what, Object got, Object want) {
        if (!got.equals(want)) {
            wrong++;
            System.out.println(what + ": " + got + ", due is " + want);
        }
    }

    public static void main(String[] args) throws Exception {
        Class<?> face = ComparatorNetworks.class;
        due("public", Modifier.isPublic(face.getModifiers()), true);
        due("final", Modifier.isFinal(face.getModifiers()), true);
        Set<String> constants = new TreeSet<>();
        Set<String> methods = new TreeSet<>();
        Set<String> publicNames = new TreeSet<>();
        for (Field field : face.getDeclaredFields()) {
            if (!Modifier.isPrivate(field.getModifiers())) {
                constants.add(field.getName() + "=" + field.getInt(null));
                due(field.getName() + " public", Modifier.isPublic(field.getModifiers()), true);
                due(field.getName() + " final", Modifier.isFinal(field.getModifiers()), true);
                due(field.getName() + " type", field.getType(), int.class);
            }
        }
        for (Method method : face.getDeclaredMethods()) {
            if (!Modifier.isPrivate(method.getModifiers())) {
                methods.add(method.getReturnType() + " " + method.getName() + " " + method.getParameterCount());
                publicNames.add(method.getName());
                due(method.getName() + " public", Modifier.isPublic(method.getModifiers()), true);
                for (Class<?> type : method.getParameterTypes()) {
                    due(method.getName() + " parameter", type, int.class);
                }
            }
        }
        due("constants", constants, new TreeSet<>(Arrays.asList(CONSTANTS)));
        due("methods", methods, new TreeSet<>(Arrays.asList(METHODS)));
        Constructor<?>[] constructors = face.getDeclaredConstructors();
        due("constructors", constructors.length, 1);
        due("constructor parameters", constructors[0].getParameterCount(), 0);
        due("constructor public", Modifier.isPublic(constructors[0].getModifiers()), true);
        dueInside(face, publicNames);
        System.out.println(wrong == 0 ? "the face is the document's" : wrong + " differences");
        if (wrong != 0) System.exit(1);
    }

    /** LANGUAGE.md, rules 1, 5 and 11: own names for what is private, final statics, few fields and parameters. */
    private static void dueInside(Class<?> face, Set<String> publicNames) {
        Class<?>[] inside = face.getDeclaredClasses();
        due("at most twelve classes", inside.length + 1 <= 12, true);
        for (Class<?> part : inside) {
            due(part + " static", Modifier.isStatic(part.getModifiers()), true);
            for (Method method : part.getDeclaredMethods()) {
                due(part + " has an own name for " + method.getName(), publicNames.contains(method.getName()), false);
            }
        }
        for (Method method : face.getDeclaredMethods()) {
            boolean hides = Modifier.isPrivate(method.getModifiers()) && publicNames.contains(method.getName());
            due("private " + method.getName(), hides, false);
        }
        Class<?>[] all = Arrays.copyOf(inside, inside.length + 1);
        all[inside.length] = face;
        for (Class<?> part : all) {
            int fields = 0;
            for (Field field : part.getDeclaredFields()) {
                boolean fixed = Modifier.isStatic(field.getModifiers());
                fields += fixed ? 0 : 1;
                due(field + " final", !fixed || Modifier.isFinal(field.getModifiers()), true);
            }
            due(part + " has at most twenty fields", fields <= 20, true);
            for (Method method : part.getDeclaredMethods()) {
                due(method + " has at most seven parameters", method.getParameterCount() <= 7, true);
            }
        }
    }
}
