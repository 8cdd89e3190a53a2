import java.io.IOException;
import java.lang.reflect.InvocationTargetException;
import java.lang.reflect.Method;
import java.nio.charset.StandardCharsets;
import java.nio.file.Files;
import java.nio.file.Path;
import java.util.ArrayList;
import java.util.HashMap;
import java.util.List;
import java.util.Map;

/**
 * One object after another, asked by calls that are told as texts: "declare(0, 3)". So a run can be
 * told once more on another object, and what a call has changed is seen by all that can come later.
 */
final class Bench {
    static final int UNKNOWN = -1, BAD = -2, LATE = -3, FULL = -4, NONE = -9;

    /** Behind so many calls of one object its answers are free. */
    private static final int MOST_CALLS = 512;
    private static final Path DOCUMENT = Path.of("../shared/DOC.md");
    private static final Map<String, Call> READ = new HashMap<>();
    private static final List<List<String>> PROBES = probes();

    private final String test;
    private final Due due;
    private final List<String> strange = new ArrayList<>();
    private final List<String> quoted = new ArrayList<>();
    private final String document = document();
    private String sentence = "";
    private int checksAtSentence = -1;
    private Subject subject = new Subject();
    /** What made the object what it is: calls that change nothing are left out. */
    private final List<String> history = new ArrayList<>();

    private record Call(Method method, Object[] arguments) { }

    /** An object and how often it was called. */
    private static final class Subject {
        private final SurpriseTax x = new SurpriseTax();
        private int calls = 0;

        String ask(String told) {
            calls++;
            if (calls > MOST_CALLS) return "nothing that counts: more than 512 calls";
            Call call = READ.computeIfAbsent(told, Bench::read);
            try {
                return String.valueOf(call.method.invoke(x, call.arguments));
            } catch (InvocationTargetException thrown) {
                return "by throwing " + thrown.getCause();
            } catch (IllegalAccessException closed) {
                return "not at all: " + closed;
            }
        }
    }

    Bench(String test) {
        this.test = test;
        due = new Due(test);
    }

    // ---- what is asked

    /** What follows looks at this sentence of the document, told as it stands there. */
    void sentence(String place, String words) {
        checkThatAskedSomething();
        sentence = place + ", \"" + words + "\"";
        checksAtSentence = due.count();
        quoted.add(plain(words));
        if (!document.isEmpty() && !document.contains(plain(words))) strange.add(sentence);
    }

    void fresh() {
        subject = new Subject();
        history.clear();
    }

    /** THE TEXT becomes this one. */
    void text(String text) {
        go("wipe()");
        add(text);
    }

    void add(String text) {
        for (char c : text.toCharArray()) go("write(" + (int) c + ")");
    }

    /** A new object with this REALM. */
    void make(String text) {
        fresh();
        text(text);
        due("realm()", text.chars().filter(c -> c == 'P').count());
    }

    /** Calls on the way to a boundary, that are not looked at here. */
    void go(String... calls) {
        for (String call : calls) {
            history.add(call);
            subject.ask(call);
        }
    }

    void times(int n, String call) {
        for (int i = 0; i < n; i++) go(call);
    }

    void due(String call, long want) {
        history.add(call);
        compare(call, want);
    }

    /** As due, and the call changes nothing that later calls show. */
    void still(String call, long want) {
        changesNothing(call);
        compare(call, want);
    }

    /** Looks, on other objects, for what any later call shows of these calls. */
    void changesNothing(String... calls) {
        for (List<String> probe : PROBES) {
            List<String> without = answers(probe, List.of()), with = answers(probe, List.of(calls));
            int at = 0;
            while (at < probe.size() && without.get(at).equals(with.get(at))) at++;
            if (at == probe.size()) {
                due.passes();
                continue;
            }
            due.fails(at(List.of(calls) + " changes something: then " + probe.get(at) + " answers " + with.get(at) + ", not "
                + without.get(at)));
        }
    }

    /** As due, of what was asked without this bench. */
    void equal(String what, long got, long want) {
        due.is(at(what), got, want);
    }

    /** Like still, with each of these for the sign ? in the call. */
    void each(String call, long want, String... values) {
        for (String value : values) still(call.replace("?", value), want);
    }

    /** Like due, with 0, 1, .. for the sign ? in the call. */
    void row(String call, long... wants) {
        for (int i = 0; i < wants.length; i++) due(call.replace("?", String.valueOf(i)), wants[i]);
    }

    /** Tells which words of the document no sentence has quoted; the face's calls and headings are FaceTest's. */
    void tellUnread() {
        String unread = words(readDocument());
        for (String words : quoted) unread = unread.replace(words, "\n");
        for (String left : unread.split("\n")) {
            if (left.matches(".*\\w.*")) System.out.println(test + ": no test has asked about: " + left.trim());
        }
    }

    void end() {
        checkThatAskedSomething();
        for (String words : strange) System.out.println(test + ": not (any more) in the document: " + words);
        due.end();
    }

    // ---- how it is asked

    private void compare(String call, long want) {
        String got = subject.ask(call);
        if (got.equals(String.valueOf(want))) due.passes();
        else due.fails(at(call + " answered " + got + ", due is " + want));
    }

    private List<String> answers(List<String> probe, List<String> ahead) {
        Subject twin = new Subject();
        for (String call : history) twin.ask(call);
        for (String call : ahead) twin.ask(call);
        List<String> answers = new ArrayList<>();
        for (String call : probe) answers.add(twin.ask(call));
        if (twin.calls > MOST_CALLS) due.fails(at("this run is too long to be looked at whole"));
        return answers;
    }

    private String at(String told) {
        List<String> last = history.subList(Math.max(0, history.size() - 6), history.size());
        return sentence + "\n    " + told + "\n    behind " + last;
    }

    private void checkThatAskedSomething() {
        if (due.count() == checksAtSentence) due.fails(sentence + ": nothing was asked");
    }

    private static Call read(String told) {
        int open = told.indexOf('(');
        String inside = told.substring(open + 1, told.length() - 1);
        String[] values = inside.isEmpty() ? new String[0] : inside.split(", ");
        for (Method method : SurpriseTax.class.getMethods()) {
            Class<?>[] types = method.getParameterTypes();
            if (!method.getName().equals(told.substring(0, open)) || types.length != values.length) continue;
            Object[] arguments = new Object[types.length];
            for (int i = 0; i < types.length; i++) arguments[i] = value(types[i], values[i]);
            return new Call(method, arguments);
        }
        throw new IllegalArgumentException("no such call: " + told);
    }

    private static Object value(Class<?> type, String told) {
        if (type == boolean.class) return Boolean.valueOf(told);
        boolean isLong = type == long.class;
        if (told.equals("LEAST")) return isLong ? (Object) Long.MIN_VALUE : (Object) Integer.MIN_VALUE;
        if (told.equals("MOST")) return isLong ? (Object) Long.MAX_VALUE : (Object) Integer.MAX_VALUE;
        return isLong ? (Object) Long.valueOf(told) : (Object) Integer.valueOf(told);
    }

    // ---- what later calls show

    private static List<List<String>> probes() {
        List<List<String>> all = new ArrayList<>();
        all.add(joined(standing(), outlook()));
        List<String> undone = new ArrayList<>();
        for (int i = 0; i < 13; i++) {
            undone.add("undo()");
            all.add(joined(undone, standing()));
        }
        for (int slot = 0; slot < 2; slot++) all.add(joined(List.of("again(" + slot + ")"), joined(standing(), outlook())));
        all.add(joined(acting(), standing()));
        all.add(List.of("tales(0)", "roll(0, 1)", "roll(1, 2)", "tales(0)", "roll(0, 3)", "roll(0, 4)", "roll(0, 5)",
            "roll(0, 6)", "roll(0, 7)", "unroll()", "tales(1)"));
        all.add(List.of("fault()", "write(48)", "fault()", "write(82)", "write(48)", "fault()", "wipe()", "about(10)"));
        all.add(joined(List.of("realm()", "undo()", "again(0)", "unroll()", "seed(1)"), standing()));
        all.add(List.of("week(1)", "week(4)", "seed(7)", "week(30)", "seed(0)"));
        return all;
    }

    /** All that about and person tell. */
    private static List<String> standing() {
        List<String> calls = new ArrayList<>();
        for (int what = 0; what <= 10; what++) calls.add("about(" + what + ")");
        for (int p = 0; p < 5; p++) {
            for (int what = 0; what <= 8; what++) calls.add("person(" + p + ", " + what + ")");
        }
        return calls;
    }

    private static List<String> outlook() {
        List<String> calls = new ArrayList<>(List.of("tales(0)", "tales(1)", "tales(2)", "braced(0)", "braced(1)", "braced(2)",
            "week(2)", "seed(0)"));
        for (int p = 0; p < 5; p++) {
            calls.addAll(List.of("mean(" + p + ", true)", "mean(" + p + ", false)", "counsel(" + p + ")", "courier(" + p + ")",
                "least(" + p + ", 2, true)", "least(" + p + ", 2, false)", "joke(" + p + ", 2)", "jokeAt(" + p + ", 2, 1)",
                "school(" + p + ", 0, 4, 3210)", "fair(" + p + ", 3, 5)"));
            for (int kind = 0; kind < 4; kind++) calls.add("tax(" + p + ", " + kind + ")");
        }
        for (int kind = 0; kind < 4; kind++) calls.addAll(List.of("broke(" + kind + ")", "reform(" + kind + ")"));
        return calls;
    }

    private static List<String> acting() {
        List<String> calls = new ArrayList<>();
        for (int p = 0; p < 5; p += 2) calls.add("declare(" + p + ", 1)");
        for (int p = 0; p < 5; p++) {
            for (int other = 0; other < 5; other++) calls.add("tellOn(" + p + ", " + other + ")");
        }
        calls.add("event(2)");
        return calls;
    }

    private static List<String> joined(List<String> first, List<String> second) {
        List<String> all = new ArrayList<>(first);
        all.addAll(second);
        return all;
    }

    // ---- the document

    private static String document() {
        return plain(readDocument());
    }

    /** Nothing, if it is not there: the tests do not hang on it. */
    private static String readDocument() {
        if (!Files.isReadable(DOCUMENT)) return "";
        try {
            return Files.readString(DOCUMENT, StandardCharsets.UTF_8);
        } catch (IOException unread) {
            return "";
        }
    }

    /** What is left without headings, marks, the face's calls and what is not promised. */
    private static String words(String document) {
        String told = document.replaceFirst("(?s)\n## Not promised.*", "\n");
        told = told.replaceAll("(?m)^    public (int|long|SurpriseTax)\\b.*$|^public final class.*$|^Ahead of the calls .*$", " ");
        told = told.replaceAll("(?m)^#.*$|^```\\w*$|^    (Pabcdmn|Rij)(?= )", " ");
        return plain(told.replaceAll("={8} [1-4]\\b", " "));
    }

    private static String plain(String told) {
        return told.replaceAll("\\s+", " ");
    }
}
