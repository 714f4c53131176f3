import java.util.ArrayList;
import java.util.List;

/**
 * Two new objects are handed the same calls, but one of them also a call that should change
 * nothing; whatever is asked and done then, both must answer alike.
 */
final class Twins {
    private static final int MOST_CALLS = 512, MOST_FURNISHED = 400;

    private Twins() {
    }

    static void changesNothing(String sentence, List<String> before, String call) {
        String what = sentence + ": behind " + call;
        alike(what, before, call, List.of(), looks(before));
        for (List<String> futures : enumerations(before)) alike(what, before, call, List.of(), futures);
        for (String next : nextCalls(before)) {
            List<String> behind = new ArrayList<>(before);
            behind.add(next);
            alike(what, before, call, List.of(next), looks(behind));
        }
    }

    /** The same, and also where FILES have CONTENTS, the CACHE ENTRIES and THE TAPE a byte, so that there is more that could go wrong. */
    static void nowhereChangesAnything(String sentence, List<String> before, String call) {
        changesNothing(sentence, before, call);
        List<String> furnished = furnished(before);
        boolean isAsBefore = new Asked(furnished).now(call) == new Asked(before).now(call);
        if (isAsBefore) changesNothing(sentence + ", furnished", furnished, call);
    }

    private static List<String> furnished(List<String> before) {
        Asked asked = new Asked(before);
        List<String> calls = new ArrayList<>(before);
        int paths = asked.now("count 0");
        for (int p = 1; p < paths && calls.size() < MOST_FURNISHED; p++) {
            if (asked.now("of " + p + " 2") == 1 || asked.now("of " + p + " 3") != BuildCache.NONE) continue;
            for (int s = 0; s < 2; s++) calls.addAll(Script.lines("feed " + (256 * (p + 1) + s) + " 2; write " + s + " " + p));
        }
        calls.addAll(Script.lines("build 0 -1; build 1 -1; feed 0x7a 1"));
        return calls;
    }

    /** Asks in portions, each of a new pair, as nothing is promised about an object's later calls. */
    private static void alike(String what, List<String> before, String call, List<String> next, List<String> asks) {
        int room = MOST_CALLS - before.size() - next.size() - 1;
        Due.is(what + ": room to ask", Math.min(room, 1), 1);
        for (int from = 0; from < asks.size() && room > 0; from += room) {
            BuildCache plain = madeBy(before);
            BuildCache other = madeBy(before);
            Script.answer(other, call);
            List<String> portion = new ArrayList<>(next);
            portion.addAll(asks.subList(from, Math.min(from + room, asks.size())));
            for (String ask : portion) {
                long want = Script.answer(plain, ask);
                Due.is(what + ": " + ask, Script.answer(other, ask), want);
            }
        }
    }

    private static BuildCache madeBy(List<String> calls) {
        BuildCache x = new BuildCache();
        for (String call : calls) Script.answer(x, call);
        return x;
    }

    /** Answers of an object with these calls behind it, made anew whenever it has had as many calls as are promised. */
    private static final class Asked {
        private final List<String> before;
        private BuildCache x;
        private int room = 0;

        Asked(List<String> before) {
            this.before = before;
        }

        int now(String call) {
            if (room == 0) {
                x = madeBy(before);
                room = MOST_CALLS - before.size();
            }
            room--;
            return (int) Script.answer(x, call);
        }
    }

    /** All that can be asked without a change. */
    private static List<String> looks(List<String> before) {
        Asked asked = new Asked(before);
        int paths = asked.now("count 0");
        int actions = asked.now("count 1");
        int entries = asked.now("count 3");
        int deeds = asked.now("count 6");
        StringBuilder asks = new StringBuilder(Script.range("count #", 0, 10) + Script.each("isClean #", 0, 1));
        for (int p = 0; p < paths; p++) asks.append(Script.range("of " + p + " #", 0, 3));
        for (int s = 0; s < 2; s++) {
            for (int p = 1; p < paths; p++) {
                asks.append("length ").append(s).append(' ').append(p).append('\n');
                asks.append(Script.range("byteAt " + s + " " + p + " #", 0, asked.now("length " + s + " " + p)));
            }
            asks.append(Script.range("changed " + s + " #", 0, actions - 1)).append(Script.range("key " + s + " #", 0, actions - 1));
        }
        for (int a = 0; a < actions; a++) {
            asks.append(Script.range("about " + a + " #", 0, 3)).append(Script.range("uses " + a + " #", 0, Math.min(actions, 8) - 1));
        }
        for (int i = 0; i < entries; i++) asks.append(Script.range("entry " + i + " #", 0, 4));
        for (int i = 0; i < deeds; i++) asks.append(Script.range("done " + i + " #", 0, 3));
        return Script.lines(asks.toString());
    }

    /** Calls that show, by what is refused and what not, where each PATH, NAME, INPUT, OUTPUT and STEP stands. */
    private static List<List<String>> enumerations(List<String> before) {
        Asked asked = new Asked(before);
        int last = asked.now("count 0") - 1;
        int actions = asked.now("count 1");
        StringBuilder paths = new StringBuilder();
        for (int p = 0; p <= last; p++) paths.append(Script.each("path " + p + " # file", 1, 2, 3, 26));
        StringBuilder inputs = new StringBuilder();
        StringBuilder outputs = new StringBuilder();
        StringBuilder ends = new StringBuilder();
        for (int a = 0; a < actions; a++) {
            inputs.append(Script.range("input " + a + " #", 0, last));
            outputs.append(Script.range("output " + a + " #", 0, last));
            ends.append(Script.each("step # 3 0; erase #", a));
        }
        ends.append("action");
        return List.of(Script.lines(paths.toString()), Script.lines(inputs.toString()), Script.lines(outputs.toString()),
            Script.lines(ends.toString()));
    }

    private static List<String> nextCalls(List<String> before) {
        Asked asked = new Asked(before);
        List<String> next = new ArrayList<>(Script.lines("build 0 -1; build 1 -1; copy 0; copy 1; capacity 0; forget; feed 1 1"));
        for (int p = 1; p < asked.now("count 0"); p++) {
            if (asked.now("of " + p + " 2") == 1 || asked.now("of " + p + " 3") != BuildCache.NONE) continue;
            // THE TAPE shows only in a FILE.
            next.add("write 0 " + p);
            break;
        }
        return next;
    }
}
