import java.util.ArrayList;
import java.util.List;
import java.util.Set;

/**
 * Runs calls that are written as text, a line each or with ; between, on a new object:
 * <pre>
 * path 0 1 file = 1      the answer that is due
 * path 0 0 file ! BAD    a call that is refused: it answers this, and changes nothing
 * key 0 0 ~ 0            a call that is not refused: it answers this, and changes nothing, as it only asks or there is nothing to change
 * action                 any answer
 * put 0 1 'abc'          feeds a text and writes it to FILE 1 in SPACE 0
 * fill 0 1 64 255        the same with 64 bytes that are 255
 * holds 0 1 'abc'        asks for the length and for each byte; absent in place of a text: it is ABSENT
 * steps 0 0:1 3:0        STEPS for ACTION 0: READ INPUT 1, WRITE OUTPUT 0
 * </pre>
 */
final class Script {
    private static final int MOST_CALLS = 512;
    private static final Set<String> ASKING = Set.of(
        "of", "length", "byteAt", "about", "uses", "done", "changed", "key", "isClean", "entry", "count");
    private static int edges = 0;

    private Script() {
    }

    /** The calls of one new object, for a sentence of the document that names a bound. */
    static void edge(String sentence, String... parts) {
        BuildCache x = new BuildCache();
        List<String> taken = new ArrayList<>();
        int calls = 0;
        for (String line : lines(parts)) {
            String[] sides = line.split(" [=!~] ");
            String call = sides[0];
            long got = answer(x, call);
            calls++;
            if (sides.length > 1) Due.is(sentence + ": " + call, got, number(sides[1]));
            boolean isAsking = ASKING.contains(words(call)[0]);
            if (line.contains(" ! ") || isAsking && line.contains(" ~ ")) Twins.nowhereChangesAnything(sentence, taken, call);
            else if (line.contains(" ~ ")) Twins.changesNothing(sentence, taken, call);
            else if (!isAsking) taken.add(call);
        }
        Due.is(sentence + ": an object's calls", Math.min(calls, MOST_CALLS), calls);
        edges++;
    }

    static void end(String test) {
        System.out.println(test + ": " + edges + " edges");
        Due.end(test);
    }

    /** One line for each number, which comes in place of #. */
    static String each(String line, int... numbers) {
        StringBuilder all = new StringBuilder();
        for (int number : numbers) all.append(line.replace("#", "" + number)).append('\n');
        return all.toString();
    }

    /** One line for each number from first to last. */
    static String range(String line, int first, int last) {
        StringBuilder all = new StringBuilder();
        for (int number = first; number <= last; number++) all.append(each(line, number));
        return all.toString();
    }

    static List<String> lines(String... parts) {
        List<String> all = new ArrayList<>();
        for (String part : parts) {
            for (String line : part.split("[\n;]")) if (!line.isBlank()) all.addAll(expanded(line.strip()));
        }
        return all;
    }

    private static List<String> expanded(String line) {
        String[] w = words(line);
        switch (w[0]) {
            case "put": return put(w[1], w[2], quoted(line));
            case "fill": return put(w[1], w[2], Due.times("" + (char) Integer.parseInt(w[4]), Integer.parseInt(w[3])));
            case "holds": return holds(w[1], w[2], w[3].equals("absent") ? null : quoted(line));
            case "steps": return steps(w);
            default: return List.of(line);
        }
    }

    private static String quoted(String line) {
        return line.substring(line.indexOf('\'') + 1, line.lastIndexOf('\''));
    }

    private static List<String> put(String space, String path, String text) {
        List<String> calls = new ArrayList<>();
        for (int i = 0; i < text.length(); i += 8) {
            int n = Math.min(8, text.length() - i);
            StringBuilder hex = new StringBuilder();
            for (char c : text.substring(i, i + n).toCharArray()) hex.append(String.format("%02x", (int) c));
            calls.add("feed 0x" + hex + " " + n + " = " + (i + n));
        }
        calls.add("write " + space + " " + path + " = " + text.length());
        return calls;
    }

    private static List<String> holds(String space, String path, String text) {
        if (text == null) return List.of("length " + space + " " + path + " = NONE");
        List<String> calls = new ArrayList<>();
        calls.add("length " + space + " " + path + " = " + text.length());
        for (int i = 0; i < text.length(); i++) {
            calls.add("byteAt " + space + " " + path + " " + i + " = " + (int) text.charAt(i));
        }
        return calls;
    }

    private static List<String> steps(String[] w) {
        List<String> calls = new ArrayList<>();
        for (int i = 2; i < w.length; i++) calls.add("step " + w[1] + " " + w[i].replace(':', ' '));
        return calls;
    }

    private static String[] words(String line) {
        return line.split(" +");
    }

    private static long number(String word) {
        switch (word.strip()) {
            case "NONE": return BuildCache.NONE;
            case "BAD": return BuildCache.BAD;
            case "KIND": return BuildCache.KIND;
            case "TWICE": return BuildCache.TWICE;
            case "CIRCLE": return BuildCache.CIRCLE;
            case "FULL": return BuildCache.FULL;
            case "LEAST": return Long.MIN_VALUE;
            default: return word.startsWith("0x") ? Long.parseUnsignedLong(word.substring(2), 16) : Long.parseLong(word.strip());
        }
    }

    static long answer(BuildCache x, String call) {
        String[] w = words(call);
        if (w[0].equals("path")) return x.path((int) number(w[1]), (int) number(w[2]), w[3].equals("dir"));
        if (w[0].equals("feed")) return x.feed(number(w[1]), (int) number(w[2]));
        int a = w.length > 1 ? (int) number(w[1]) : 0;
        int b = w.length > 2 ? (int) number(w[2]) : 0;
        int c = w.length > 3 ? (int) number(w[3]) : 0;
        switch (w[0]) {
            case "of": return x.of(a, b);
            case "write": return x.write(a, b);
            case "remove": return x.remove(a, b);
            case "copy": return x.copy(a);
            case "length": return x.length(a, b);
            case "byteAt": return x.byteAt(a, b, c);
            case "action": return x.action();
            case "input": return x.input(a, b);
            case "output": return x.output(a, b);
            case "step": return x.step(a, b, c);
            case "erase": return x.erase(a);
            case "about": return x.about(a, b);
            case "uses": return x.uses(a, b);
            case "build": return x.build(a, b);
            case "done": return x.done(a, b);
            case "changed": return x.changed(a, b);
            case "key": return x.key(a, b);
            case "isClean": return x.isClean(a);
            case "capacity": return x.capacity(a);
            case "entry": return x.entry(a, b);
            case "forget": return x.forget();
            case "count": return x.count(a);
            case "clear": return x.clear();
            default: throw new IllegalArgumentException("no call: " + call);
        }
    }
}
