import java.io.IOException;
import java.lang.reflect.Method;
import java.nio.file.Files;
import java.nio.file.Path;
import java.util.ArrayList;
import java.util.HashMap;
import java.util.List;
import java.util.Map;
import java.util.regex.Matcher;
import java.util.regex.Pattern;

/**
 * A test of one sentence of the document, on a new object. Calls are given as text, "add(0, 1, 2)", "39 x add(0, 1, 2)"
 * or "write 0:1;1:0" (an append for each sign), so that they can be made once more on other new objects: that is how
 * a call is shown to change nothing. No object gets more than the 512 calls that the document allows.
 */
final class Desk {
    private static final int MOST_CALLS = 512;
    private static final int MORE_THAN_UNDOABLE = 13;
    private static final Path DOCUMENT = Path.of("../shared/DOC.md");
    private static final Pattern CALL = Pattern.compile("(\\w+)\\((.*)\\)");
    private static final Pattern REPEATED = Pattern.compile("(\\d+) x (.*)");
    private static final Map<String, Method> METHODS = new HashMap<>();
    private static final Map<Integer, String> SECTIONS = readSections();

    private static int tests = 0;
    private static int wrong = 0;

    static {
        for (Method method : ComparatorNetworks.class.getDeclaredMethods()) {
            METHODS.put(method.getName(), method);
        }
    }

    /** A new object and the number of its calls. */
    private static final class Subject {
        private final ComparatorNetworks networks = new ComparatorNetworks();
        private int calls = 0;

        Subject(List<String> first) {
            for (String text : first) {
                call(text);
            }
        }

        long call(String text) {
            calls++;
            if (calls > MOST_CALLS) {
                throw new IllegalStateException("the test makes more than 512 calls: " + text);
            }
            Matcher parts = CALL.matcher(text);
            if (!parts.matches() || !METHODS.containsKey(parts.group(1))) {
                throw new IllegalStateException("no call: " + text);
            }
            String list = parts.group(2).trim();
            String[] words = list.isEmpty() ? new String[0] : list.split(",");
            Object[] arguments = new Object[words.length];
            for (int k = 0; k < words.length; k++) {
                arguments[k] = Integer.valueOf(words[k].trim());
            }
            try {
                return ((Number) METHODS.get(parts.group(1)).invoke(networks, arguments)).longValue();
            } catch (ReflectiveOperationException problem) {
                throw new IllegalStateException(text + " failed", problem);
            }
        }

        String look(String text) {
            return text + " answers " + call(text);
        }
    }

    private final String title;
    private final List<String> log = new ArrayList<>();
    private final Subject live = new Subject(List.of());
    private List<String> portrait = null;

    private Desk(String title) {
        this.title = title;
    }

    /** Begins the test of a sentence, which stands in the section of this promise; 0 is for what is in no promise. */
    static Desk test(int promise, String sentence) {
        tests++;
        String title = (promise == 0 ? "document" : "promise " + promise) + ", \"" + sentence + "\"";
        if (SECTIONS.containsKey(promise) && !SECTIONS.get(promise).contains(sentence)) {
            fault(title + ": the document does not say this there");
        }
        return new Desk(title);
    }

    /** Begins a test on a new object that quotes no sentence, or one that was looked up already. */
    static Desk titled(String title) {
        tests++;
        return new Desk(title);
    }

    static void finish(String name) {
        System.out.println(name + ": " + tests + " tests, " + (wrong == 0 ? "all hold" : wrong + " faults"));
        if (wrong != 0) System.exit(1);
    }

    static void fault(String what) {
        wrong++;
        System.out.println(what);
    }

    private static Map<Integer, String> readSections() {
        Map<Integer, String> sections = new HashMap<>();
        if (!Files.exists(DOCUMENT)) {
            return sections;
        }
        try {
            StringBuilder others = new StringBuilder();
            for (String section : Files.readString(DOCUMENT).split("\n## ")) {
                String text = section.replaceAll("\\s+", " ");
                Matcher promise = Pattern.compile("Promise (\\d+):.*").matcher(text);
                if (promise.matches()) {
                    sections.put(Integer.valueOf(promise.group(1)), text);
                } else {
                    others.append(text).append(' ');
                }
            }
            sections.put(0, others.toString());
        } catch (IOException problem) {
            throw new IllegalStateException("the document cannot be read", problem);
        }
        return sections;
    }

    private static List<String> expand(String text) {
        List<String> calls = new ArrayList<>();
        Matcher repeated = REPEATED.matcher(text);
        if (text.startsWith("write ")) {
            for (char sign : text.substring("write ".length()).toCharArray()) {
                calls.add("append(" + (int) sign + ")");
            }
        } else if (repeated.matches()) {
            for (int k = Integer.parseInt(repeated.group(1)); k > 0; k--) {
                calls.add(repeated.group(2));
            }
        } else {
            calls.add(text);
        }
        return calls;
    }

    /** Calls that lead to the case; each must succeed. */
    Desk given(String... texts) {
        for (String text : texts) {
            for (String call : expand(text)) {
                long got = make(call);
                if (got < 0) {
                    fault(title + ": " + call + " leads to the case, but answered " + got);
                }
            }
        }
        return this;
    }

    /** A network with these comparators, each written as 10 * i + j. */
    Desk net(int network, int wires, int... codes) {
        given("reset(" + network + ", " + wires + ")");
        for (int code : codes) {
            given("add(" + network + ", " + code / 10 + ", " + code % 10 + ")");
        }
        return this;
    }

    /** A network with so many comparators (0, 1). */
    Desk fill(int network, int wires, int count) {
        return given("reset(" + network + ", " + wires + ")", count + " x add(" + network + ", 0, 1)");
    }

    private long make(String call) {
        log.add(call);
        portrait = null;
        return live.call(call);
    }

    /** A call that may change something, with its answer. */
    Desk due(String call, long want) {
        compare(call, make(call), want);
        return this;
    }

    /** A call with its answer that leaves everything as it was, so that it answers the same once more. */
    Desk asks(String call, long want) {
        compare(call, live.call(call), want);
        compare(call + " once more", live.call(call), want);
        if (portrait == null) {
            portrait = portraitAfter(log, null);
        }
        comparePortraits(call, portrait, portraitAfter(log, call));
        return this;
    }

    /** A call that answers an error code and leaves everything as it was. */
    Desk refused(String call, long code) {
        if (code >= 0) {
            throw new IllegalStateException("no error code: " + code);
        }
        return asks(call, code);
    }

    /** A call that answers an error code and leaves everything as it was, but for the text, which is empty then. */
    Desk refusedTextGone(String call, long code) {
        comparePortraits(call, portraitAfter(log, "clearText()"), portraitAfter(log, call));
        return due(call, code);
    }

    /** What a network holds. */
    Desk holds(int network, int wires, int... codes) {
        compare("wires(" + network + ")", live.call("wires(" + network + ")"), wires);
        compare("size(" + network + ")", live.call("size(" + network + ")"), codes.length);
        for (int p = 0; p < codes.length; p++) {
            String call = "comparator(" + network + ", " + p + ")";
            compare(call, live.call(call), codes[p]);
        }
        return this;
    }

    private void compare(String call, long got, long want) {
        if (got != want) {
            fault(title + ": " + call + " answered " + got + ", due is " + want);
        }
    }

    private void comparePortraits(String call, List<String> before, List<String> after) {
        if (!before.equals(after)) {
            for (int k = 0; k < Math.min(before.size(), after.size()); k++) {
                if (!before.get(k).equals(after.get(k))) {
                    fault(title + ": " + call + " changed\n    " + before.get(k) + "\n into\n    " + after.get(k));
                    return;
                }
            }
            fault(title + ": " + call + " changed how much can be undone");
        }
    }

    /** All that can be seen after these calls and one more. Looking changes things, so each look is at a new object. */
    private static List<String> portraitAfter(List<String> calls, String last) {
        List<String> all = new ArrayList<>(calls);
        if (last != null) {
            all.add(last);
        }
        List<String> portrait = new ArrayList<>();
        boolean more = true;
        for (int back = 0; back <= MORE_THAN_UNDOABLE && more; back++) {
            Subject subject = new Subject(all);
            long left = 0;
            for (int k = 0; k < back; k++) {
                left = subject.call("undo()");
            }
            more = left >= 0;
            portrait.add(back + " changes undone, the last answer " + left + ": " + networksOf(subject));
        }
        portrait.add(keysAndRunOf(new Subject(all)));
        portrait.add(shelvesOf(new Subject(all)));
        portrait.add(textOf(new Subject(all)));
        portrait.add(new Subject(all).look("clearText()"));
        return portrait;
    }

    private static String networksOf(Subject subject) {
        StringBuilder seen = new StringBuilder();
        for (int network = 0; network < 4; network++) {
            seen.append(subject.call("wires(" + network + ")")).append(" wires");
            long size = subject.call("size(" + network + ")");
            for (int p = 0; p < size; p++) {
                seen.append(' ').append(subject.call("comparator(" + network + ", " + p + ")"));
            }
            seen.append("; ");
        }
        return seen.toString();
    }

    private static String keysAndRunOf(Subject subject) {
        StringBuilder seen = new StringBuilder();
        for (int wire = 0; wire < 8; wire++) {
            seen.append(subject.look("result(" + wire + ")")).append("; ");
            seen.append(subject.look("origin(" + wire + ")")).append("; ");
        }
        seen.append(subject.look("isStable()")).append("; ");
        for (int key = 0; key < 8; key++) {
            seen.append(subject.look("setKey(" + key + ", 50)")).append("; ");
        }
        return seen.toString();
    }

    private static String shelvesOf(Subject subject) {
        StringBuilder seen = new StringBuilder();
        for (int shelf = 0; shelf < 3; shelf++) {
            seen.append(subject.look("castBlock(" + shelf + ", 0)")).append("; ");
            subject.call("reset(0, 8)");
            long appended = subject.call("applyBlock(" + shelf + ", 0)");
            for (int p = 0; p < appended; p++) {
                seen.append(subject.call("comparator(0, " + p + ")")).append(' ');
            }
        }
        return seen.toString();
    }

    private static String textOf(Subject subject) {
        StringBuilder seen = new StringBuilder();
        subject.call("reset(0, 8)");
        seen.append(subject.look("parse(0)")).append(": ");
        long size = subject.call("size(0)");
        for (int p = 0; p < size; p++) {
            seen.append(subject.call("comparator(0, " + p + ")")).append(' ');
        }
        return seen.toString();
    }
}
