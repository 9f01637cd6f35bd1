import java.lang.reflect.Method;
import java.nio.file.Files;
import java.nio.file.Path;
import java.util.ArrayList;
import java.util.Arrays;
import java.util.HashMap;
import java.util.List;
import java.util.Map;
import java.util.Set;
import java.util.TreeSet;
import java.util.regex.Matcher;
import java.util.regex.Pattern;

/**
 * Edges: each names a promise and a sentence of the document, and runs calls on a new object, each with the answer that
 * the sentence asks for. Of each call that is refused it is tested, too, that it changed nothing.
 *
 * A run is a text of "call(numbers) = answer", with "n x" ahead for n such calls, and # ahead of a remark. Beside the
 * calls of TableFirms there are: tell(text): feed() for each of its letters, then table(); fill(row, lane, items): row(),
 * then set() for each item; feeds(n, letter): n times feed(), the answer is the last one's.
 * Answers told by a name (but NONE) are refusals; fault@n is a fault at place n.
 */
abstract class Edges {
    private static final int MOST_CALLS = 512;
    private static final Pattern STEP = Pattern.compile("\\s*(?:(\\d+) x )?([a-z]+)\\(([^()]*)\\) = (\\S+)\\s*");
    private static final String FAULT = "fault@";
    private static final List<String> FINDINGS = List.of("NULL", "PLACE", "KIND", "SIZE", "STORE");
    private static final Map<String, Integer> NAMES = Map.of(
        "NONE", -1000000, "BAD", -1000001, "STATE", -1000002, "FULL", -1000003,
        "HIGHEST", Integer.MAX_VALUE, "LOWEST", Integer.MIN_VALUE);
    /** Calls that tell and leave all as it is, but for status(). */
    private static final Set<String> READERS = Set.of("fault", "man", "on", "stand", "may", "whither", "shots", "enter",
        "pips", "best", "race", "safe", "cast", "played", "kinds", "chance", "drawn", "kind", "as", "trace", "count", "status");

    private static final Map<String, Method> METHODS = new HashMap<>();
    private static final List<List<Call>> PROBES = new ArrayList<>();
    private static final Set<Integer> promises = new TreeSet<>();
    private static String document = "";
    private static String named = "";
    private static int edges = 0, refusals = 0, wrong = 0;

    /** from: where the group of calls begins that stands and falls with this one. */
    private record Call(String name, int[] numbers, String due, int from) {
        static Call of(String name, int... numbers) {
            return new Call(name, numbers, null, 0);
        }

        boolean isRefused() {
            return due != null && (NAMES.containsKey(due) && !due.equals("NONE") || FINDINGS.contains(due) || isFault());
        }

        boolean isFault() {
            return due != null && due.startsWith(FAULT);
        }

        String text() {
            return name + Arrays.toString(numbers).replace('[', '(').replace(']', ')');
        }
    }

    static {
        for (Method method : TableFirms.class.getDeclaredMethods()) {
            METHODS.put(method.getName(), method);
        }
        PROBES.add(looks());
        PROBES.add(sizesAndTape());
        PROBES.add(undoing());
        PROBES.add(images());
        PROBES.add(items("t12,4;c0,12;"));
        PROBES.add(items("t12,4;c0,5;"));
    }

    /** A sentence of the document, a promise that it belongs to, and a run of calls on a new object. */
    static void edge(int promise, String sentence, String run) {
        edges++;
        promises.add(promise);
        named = "promise " + promise + ", \"" + sentence + "\"";
        if (!documentText().contains(squeezed(sentence))) {
            fail("the sentence does not stand in the document");
        }
        List<Call> calls = read(run);
        answersAsDue(calls);
        for (int i = 0; i < calls.size(); i++) {
            if (calls.get(i).isRefused()) {
                refusals++;
                changesNothing(calls, i);
            }
        }
        readersChangeNothing(calls);
    }

    /** Ends a test: told are the promises that it has to have an edge for. */
    static void end(int... told) {
        for (int promise : told) {
            if (!promises.contains(promise)) {
                wrong++;
                System.out.println("promise " + promise + " has no edge");
            }
        }
        System.out.println(wrong == 0 ? edges + " edges hold, " + refusals + " refusals change nothing" : wrong + " edges do not hold");
        if (wrong != 0) {
            System.exit(1);
        }
    }

    private static void fail(String what) {
        wrong++;
        System.out.println(named + ": " + what);
    }

    // ---- the document

    private static String squeezed(String text) {
        return text.replaceAll("\\s+", " ");
    }

    private static String documentText() {
        if (document.isEmpty()) {
            try {
                document = squeezed(Files.readString(Path.of("../shared/DOC.md")));
            } catch (java.io.IOException e) {
                throw new IllegalStateException("../shared/DOC.md cannot be read", e);
            }
        }
        return document;
    }

    // ---- runs of calls

    private static List<Call> read(String run) {
        String text = run.replaceAll("#.*", "");
        List<Call> calls = new ArrayList<>();
        Matcher step = STEP.matcher(text);
        int at = 0;
        while (at < text.length() && step.find(at) && step.start() == at) {
            int times = step.group(1) == null ? 1 : Integer.parseInt(step.group(1));
            for (int i = 0; i < times; i++) {
                add(calls, step.group(2), step.group(3), step.group(4));
            }
            at = step.end();
        }
        if (at < text.length()) {
            throw new IllegalStateException(named + ": the run cannot be read from here on: " + text.substring(at));
        }
        return calls;
    }

    private static void add(List<Call> calls, String name, String inside, String due) {
        int from = calls.size();
        if (name.equals("tell")) {
            calls.addAll(fed(inside));
            calls.add(new Call("table", new int[0], due, from));
            return;
        }
        int[] numbers = numbers(inside);
        if (name.equals("fill")) {
            calls.add(new Call("row", new int[] {numbers[0], numbers[1], numbers.length - 2}, due, from));
            for (int i = 2; i < numbers.length; i++) {
                calls.add(Call.of("set", numbers[0], i - 2, numbers[i]));
            }
        } else if (name.equals("feeds")) {
            for (int left = numbers[0] - 1; left >= 0; left--) {
                calls.add(new Call("feed", new int[] {numbers[1]}, String.valueOf(number(due) - left), calls.size()));
            }
        } else {
            calls.add(new Call(name, numbers, due, from));
        }
    }

    private static List<Call> fed(String text) {
        List<Call> calls = new ArrayList<>();
        for (int i = 0; i < text.length(); i++) {
            calls.add(Call.of("feed", text.charAt(i)));
        }
        return calls;
    }

    private static int[] numbers(String inside) {
        if (inside.isBlank()) {
            return new int[0];
        }
        return Arrays.stream(inside.split(",")).mapToInt(word -> (int) number(word.trim())).toArray();
    }

    private static long number(String word) {
        if (NAMES.containsKey(word)) {
            return NAMES.get(word);
        }
        if (FINDINGS.contains(word)) {
            return -1000011 - FINDINGS.indexOf(word);
        }
        if (word.startsWith(FAULT)) {
            return -1000100 - Integer.parseInt(word.substring(FAULT.length()));
        }
        return Long.parseLong(word);
    }

    private static Object answer(TableFirms x, Call call) {
        Object[] numbers = new Object[call.numbers.length];
        for (int i = 0; i < numbers.length; i++) {
            numbers[i] = call.numbers[i];
        }
        try {
            return METHODS.get(call.name).invoke(x, numbers);
        } catch (ReflectiveOperationException e) {
            return e.getCause() == null ? e.toString() : e.getCause().toString();
        }
    }

    private static void answersAsDue(List<Call> calls) {
        if (calls.size() > MOST_CALLS) {
            fail(calls.size() + " calls are too many for one object");
        }
        TableFirms x = new TableFirms();
        int at = 0;
        for (Call call : calls) {
            Object got = answer(x, call);
            at++;
            if (call.due != null && !got.toString().equals(String.valueOf(number(call.due)))) {
                fail("call " + at + ", " + call.text() + ", answered " + got + ", due is " + call.due);
            }
        }
    }

    // ---- that nothing changed

    /** What is told behind a call has to be what is told of another new object on which it was not called. */
    private static void changesNothing(List<Call> calls, int i) {
        Call refused = calls.get(i);
        List<Call> with = calls.subList(0, i + 1);
        List<Call> without = calls.subList(0, refused.from);
        long status = FINDINGS.contains(refused.due) ? FINDINGS.indexOf(refused.due) + 1 : statusBehind(without);
        if (statusBehind(with) != status) {
            fail(refused.text() + " leaves another status() than " + status);
        }
        if (!refused.isFault() || behind(without).count(7) == 0) {
            same(without, with, refused.text(), refused.isFault());
        }
    }

    private static void readersChangeNothing(List<Call> calls) {
        List<Call> others = new ArrayList<>();
        for (Call call : calls) {
            if (!READERS.contains(call.name) && (!call.isRefused() || call.isFault())) {
                others.add(call);
            }
        }
        same(others, calls, "some call that only tells", false);
    }

    private static void same(List<Call> without, List<Call> with, String what, boolean isFaultFree) {
        for (List<Call> probe : PROBES) {
            int most = Math.min(probe.size(), MOST_CALLS - with.size());
            TableFirms x = behind(without);
            TableFirms y = behind(with);
            for (Call call : probe.subList(0, Math.max(0, most))) {
                Object due = answer(x, call);
                Object got = answer(y, call);
                if (!got.equals(due) && !(isFaultFree && call.name.equals("fault"))) {
                    fail(what + " changes " + call.text() + " to " + got + ", it was " + due);
                    return;
                }
            }
        }
    }

    private static TableFirms behind(List<Call> calls) {
        TableFirms x = new TableFirms();
        for (Call call : calls) {
            answer(x, call);
        }
        return x;
    }

    private static int statusBehind(List<Call> calls) {
        return behind(calls).status();
    }

    private static void addAll(List<Call> calls, String name, int most) {
        for (int number = 0; number <= most; number++) {
            calls.add(Call.of(name, number));
        }
    }

    private static List<Call> table() {
        List<Call> calls = new ArrayList<>();
        addAll(calls, "stand", 5);
        addAll(calls, "kind", 7);
        for (int what = 0; what <= 3; what++) {
            for (int man = 0; man <= 7; man++) {
                calls.add(Call.of("man", man, what));
            }
        }
        return calls;
    }

    private static List<Call> looks() {
        List<Call> calls = new ArrayList<>(List.of(Call.of("fault")));
        addAll(calls, "count", 7);
        addAll(calls, "trace", 16);
        calls.addAll(table());
        addAll(calls, "may", 6);
        calls.add(Call.of("best", 3, 1, 1));
        calls.add(Call.of("drawn", 20, 7, 0));
        return calls;
    }

    /** Rows of one lane can be copied, of two they can not. */
    private static List<Call> sizesAndTape() {
        List<Call> calls = new ArrayList<>();
        for (int a = 0; a < 8; a++) {
            for (int b = a + 1; b < 8; b++) {
                calls.add(Call.of("copy", a, 0, b, 0, 0));
            }
        }
        for (int row = 0; row < 8; row++) {
            calls.add(Call.of("set", row, 0, 40000));
            calls.add(Call.of("drop", row));
        }
        calls.add(Call.of("table"));
        calls.add(Call.of("fault"));
        calls.addAll(table());
        return calls;
    }

    private static List<Call> undoing() {
        List<Call> calls = new ArrayList<>();
        for (int act = 0; act < 25; act++) {
            calls.add(Call.of("undo"));
            addAll(calls, "stand", 2);
            calls.add(Call.of("count", 2));
            for (int man = 0; man <= 7; man++) {
                calls.add(Call.of("man", man, 1));
            }
        }
        return calls;
    }

    private static List<Call> images() {
        List<Call> calls = new ArrayList<>();
        for (int k = 0; k <= 1; k++) {
            calls.add(Call.of("restore", k));
            calls.add(Call.of("count", 2));
            calls.addAll(table());
        }
        return calls;
    }

    /** A man alone, who comes by each throw to another point: by cast() each item of 0 to 5 (from the bar) is told. */
    private static List<Call> items(String text) {
        List<Call> calls = new ArrayList<>(List.of(Call.of("table")));
        calls.addAll(fed(text));
        calls.add(Call.of("table"));
        for (int row = 0; row < 8; row++) {
            for (int i = 0; i < 40; i++) {
                calls.add(Call.of("cast", row, i));
            }
        }
        return calls;
    }
}
