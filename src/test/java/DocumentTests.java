import java.lang.reflect.Field;
import java.lang.reflect.Member;
import java.lang.reflect.Method;
import java.lang.reflect.Modifier;
import java.nio.file.Files;
import java.nio.file.Path;
import java.util.ArrayList;
import java.util.Arrays;
import java.util.List;
import java.util.Map;
import java.util.Set;
import java.util.TreeSet;
import java.util.regex.Matcher;
import java.util.regex.Pattern;
import java.util.stream.Collectors;

/**
 * Walks through the document from its first line to its last, by walk.txt, which holds the document piece by piece and
 * tests behind each piece; how they are written is told there. No piece may be missing, and none be without a test.
 */
public final class DocumentTests implements Codes {
    private static final Path WALK = Path.of("src/test/document/walk.txt");
    private static final Path DOCUMENT = Path.of("../shared/DOC.md");
    private static final String QUOTED = "> ";
    private static final String TEST = "  ";
    private static final Pattern NEEDS_NO_TEST = Pattern.compile("#.*|```.*|\\}|public .*|`\\w+( \\w+)?\\(.*\\)`");
    private static final Pattern ANSWERED = Pattern.compile("(\\w+\\(.*\\)) = (\\S+)");
    private static final Pattern MADE = Pattern.compile("net (\\d): (\\d) wires(?:, (.*))?");
    private static final Pattern HELD = Pattern.compile("(\\d) is (\\d) wires(?:, (.*))?");
    private static final Set<String> CHANGING = Set.of(
        "reset", "add", "insert", "remove", "append", "clearText", "parse", "setKey", "run", "prune", "reduce",
        "standardize", "mirror", "grow", "build", "concatenate", "beside", "undo", "place", "discard", "applyBlock");
    private static final Map<String, Integer> CODES = Map.of(
        "NO_SUCH_ELEMENT", NO_SUCH_ELEMENT, "BAD_VALUE", BAD_VALUE, "FULL", FULL, "NONE", NONE, "STATE", STATE,
        "TOO_LARGE", TOO_LARGE, "EMPTY", EMPTY, "WRONG_TYPE", WRONG_TYPE);

    /** Lines of the document and the tests behind them. */
    private record Piece(List<String> lines, List<String> tests) {
        String title() {
            return "document, \"" + String.join(" ", lines) + "\"";
        }

        boolean needsTest() {
            return lines.stream().anyMatch(line -> !NEEDS_NO_TEST.matcher(line).matches());
        }
    }

    public static void main(String[] args) throws Exception {
        List<Piece> pieces = readPieces(Files.readAllLines(WALK));
        List<String> lines = pieces.stream().flatMap(piece -> piece.lines().stream()).toList();
        if (Files.exists(DOCUMENT)) {
            compareText(String.join(" ", lines), Files.readString(DOCUMENT));
        }
        compareFace(lines);
        for (Piece piece : pieces) {
            if (piece.needsTest() && piece.tests().isEmpty()) {
                Desk.fault(piece.title() + ": no test");
            }
            for (String test : piece.tests()) {
                perform(piece, test);
            }
        }
        Desk.finish("DocumentTests");
    }

    private static List<Piece> readPieces(List<String> lines) {
        List<Piece> pieces = new ArrayList<>();
        boolean goesOn = false;
        for (String line : lines) {
            if (line.startsWith(QUOTED)) {
                if (!goesOn) {
                    pieces.add(new Piece(new ArrayList<>(), new ArrayList<>()));
                }
                pieces.get(pieces.size() - 1).lines().add(line.substring(QUOTED.length()));
            } else if (line.startsWith(TEST) && !pieces.isEmpty()) {
                pieces.get(pieces.size() - 1).tests().add(line.trim());
            }
            goesOn = line.startsWith(QUOTED);
        }
        return pieces;
    }

    private static void compareText(String walked, String document) {
        String[] here = walked.trim().split("\\s+");
        String[] there = document.trim().split("\\s+");
        int at = Arrays.mismatch(here, there);
        if (at >= 0) {
            Desk.fault("the walk leaves the document at " + words(here, at) + ", which says " + words(there, at));
        }
    }

    private static String words(String[] all, int from) {
        return "\"" + String.join(" ", Arrays.copyOfRange(all, from, Math.max(from, Math.min(from + 8, all.length)))) + "\"";
    }

    // ---- the face ----

    private static void compareFace(List<String> lines) throws Exception {
        Set<String> face = new TreeSet<>();
        Set<String> signatures = new TreeSet<>();
        for (String line : lines) {
            if (line.startsWith("public ") && line.endsWith(";")) {
                face.add(bare(line.substring("public ".length(), line.length() - 1)));
            }
            if (line.matches("`\\w+( \\w+)?\\(.*\\)`")) {
                signatures.add(bare(line.substring(1, line.length() - 1)));
            }
        }
        compareSets("the class and the face", declared(), face);
        face.removeIf(member -> member.contains("="));
        compareSets("the face and the promises", face, signatures);
    }

    /** A signature without the names of its parameters, which a class file does not keep. */
    private static String bare(String signature) {
        return signature.replaceAll("(int) \\w+(?=[,)])", "$1");
    }

    private static Set<String> declared() throws Exception {
        Set<String> declared = new TreeSet<>();
        for (Field field : ComparatorNetworks.class.getDeclaredFields()) {
            if (isSeen(field)) {
                String modifiers = Modifier.toString(field.getModifiers() & ~Modifier.PUBLIC);
                declared.add(modifiers + " " + field.getType() + " " + field.getName() + " = " + field.get(null));
            }
        }
        for (Method method : ComparatorNetworks.class.getDeclaredMethods()) {
            if (isSeen(method)) {
                declared.add(method.getReturnType() + " " + method.getName() + parameters(method.getParameterTypes()));
            }
        }
        for (var constructor : ComparatorNetworks.class.getDeclaredConstructors()) {
            declared.add(constructor.getName() + parameters(constructor.getParameterTypes()));
        }
        return declared;
    }

    private static boolean isSeen(Member member) {
        return !Modifier.isPrivate(member.getModifiers());
    }

    private static String parameters(Class<?>[] types) {
        return Arrays.stream(types).map(Class::getName).collect(Collectors.joining(", ", "(", ")"));
    }

    private static void compareSets(String what, Set<String> left, Set<String> right) {
        Set<String> odd = new TreeSet<>(left);
        odd.removeAll(right);
        Set<String> others = new TreeSet<>(right);
        others.removeAll(left);
        odd.addAll(others);
        if (!odd.isEmpty()) {
            Desk.fault(what + " differ in " + odd);
        }
    }

    // ---- the tests ----

    private static void perform(Piece piece, String test) {
        if (test.startsWith("(")) {
            return;
        }
        Desk desk = Desk.titled(piece.title() + " by " + test);
        for (String step : test.split(" \\| ")) {
            Matcher answered = ANSWERED.matcher(step);
            Matcher made = MADE.matcher(step);
            Matcher held = HELD.matcher(step);
            if (answered.matches()) {
                ask(desk, answered.group(1), answerOf(answered.group(2)));
            } else if (made.matches()) {
                desk.net(numberOf(made.group(1)), numberOf(made.group(2)), comparatorsOf(made.group(3)));
            } else if (held.matches()) {
                desk.holds(numberOf(held.group(1)), numberOf(held.group(2)), comparatorsOf(held.group(3)));
            } else {
                desk.given(step);
            }
        }
    }

    private static void ask(Desk desk, String call, int answer) {
        String name = call.substring(0, call.indexOf('('));
        if (name.equals("parse") && answer < 0) {
            desk.refusedTextGone(call, answer);
        } else if (CHANGING.contains(name) && answer >= 0) {
            desk.due(call, answer);
        } else {
            desk.asks(call, answer);
        }
    }

    private static int answerOf(String word) {
        return CODES.containsKey(word) ? CODES.get(word) : Integer.parseInt(word);
    }

    private static int numberOf(String digit) {
        return Integer.parseInt(digit);
    }

    private static int[] comparatorsOf(String words) {
        return words == null ? new int[0] : Arrays.stream(words.split(" ")).mapToInt(Integer::parseInt).toArray();
    }
}
