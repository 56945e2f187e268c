import java.nio.file.Files;
import java.nio.file.Path;
import java.util.List;
import java.util.regex.Matcher;
import java.util.regex.Pattern;

/** What of LANGUAGE.md can be seen in the text of the program: words and library calls that it may not use. */
public final class LanguageTests {
    private static final Path PROGRAM = Path.of("src/main/java/ComparatorNetworks.java");
    private static final String[] FORBIDDEN = {
        "\\bthrow\\b", "\\bthrows\\b", "\\btry\\b", "\\bcatch\\b", "\\bfinally\\b", "\\bsynchronized\\b",
        "\\bassert\\b", "\\bvolatile\\b", "\\btransient\\b", "\\bnative\\b", "\\bpackage\\b", "->", "::",
        "\\bprotected\\b", "\\bObject\\b", "\\bHash\\w+", "\\bThread\\b", "\\bRandom\\b", "\\bException\\b",
        "\\bhashCode\\b", "\\btoString\\b", "\\bequals\\b", "Exact\\b", "\\bstatic\\s*\\{"};
    private static final String LIBRARY_CALL = "\\b(System|Arrays|Math|Integer|Long)\\s*\\.\\s*(\\w+)";
    private static final List<String> ALLOWED_CALLS = List.of(
        "System.arraycopy", "Arrays.copyOf", "Arrays.copyOfRange", "Arrays.fill", "Math.max", "Math.min", "Math.abs",
        "Integer.bitCount", "Long.bitCount");
    private static final int LONGEST_METHOD = 60;

    private static int wrong = 0;

    private static void fault(String what) {
        wrong++;
        System.out.println(what);
    }

    public static void main(String[] args) throws Exception {
        String text = Files.readString(PROGRAM);
        for (int k = 0; k < text.length(); k++) {
            if (text.charAt(k) > 126) {
                fault("a sign beyond 126 at " + k);
            }
        }
        String code = text.replaceAll("(?s)/\\*.*?\\*/", "").replaceAll("//[^\n]*", "");
        for (String word : FORBIDDEN) {
            Matcher found = Pattern.compile(word).matcher(code);
            if (found.find()) {
                fault("the program uses " + found.group());
            }
        }
        Matcher call = Pattern.compile(LIBRARY_CALL).matcher(code);
        while (call.find()) {
            String name = call.group(1) + "." + call.group(2);
            if (!name.equals("Arrays.java") && !ALLOWED_CALLS.contains(name)) {
                fault("the program calls " + name);
            }
        }
        Matcher imported = Pattern.compile("import\\s+([\\w.*]+)").matcher(code);
        while (imported.find()) {
            if (!List.of("java.util.Arrays", "java.util.ArrayList", "java.util.List").contains(imported.group(1))) {
                fault("the program imports " + imported.group(1));
            }
        }
        checkMethodLengths(code);
        System.out.println(wrong == 0 ? "the program keeps to the language" : wrong + " faults");
        if (wrong != 0) System.exit(1);
    }

    private static void checkMethodLengths(String code) {
        String[] lines = code.split("\n");
        int start = 0;
        for (int k = 0; k < lines.length; k++) {
            if (lines[k].matches("\\s+[\\w\\[\\] ]+\\([^;]*\\) \\{") && !lines[k].matches("\\s+(if|for|while|switch).*")) {
                start = k;
            }
            if (lines[k].matches("( {4}| {8})\\}") && k - start > LONGEST_METHOD && lines[start].contains("(")
                    && indent(lines[start]) == indent(lines[k])) {
                fault("a long method: " + lines[start].trim());
            }
        }
    }

    private static int indent(String line) {
        return line.length() - line.stripLeading().length();
    }
}
