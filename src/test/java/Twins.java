import java.util.ArrayList;
import java.util.List;

/**
 * Two new objects are handed the same calls, but one of them also a call that should change
 * nothing; whatever is asked and done then, both must answer alike.
 */
final class Twins {
    private static final int MOST_CALLS = 512;

    private Twins() {
    }

    static void changesNothing(String sentence, List<String> before, String call) {
        String what = sentence + ": behind " + call;
        alike(what, before, call, List.of(), looks(before));
        for (List<String> futures : enumerations(before)) alike(what, before, call, List.of(), futures);
        for (String next : nextCalls(before)) {
            List<String> behind = new ArrayList<>(before);
            behind.add(next);
            alike(what, before, call, List.of(next), looks(behind));
        }
    }

    /** Asks in portions, each of a new pair, as an object answers only so many calls. */
    private static void alike(String what, List<String> before, String call, List<String> next, List<String> asks) {
        int room = MOST_CALLS - before.size() - next.size() - 1;
        Due.is(what + ": room to ask", Math.min(room, 1), 1);
        for (int from = 0; from < asks.size() && room > 0; from += room) {
            BuildCache plain = madeBy(before);
            BuildCache other = madeBy(before);
            Script.answer(other, call);
            List<String> portion = new ArrayList<>(next);
            portion.addAll(asks.subList(from, Math.min(from + room, asks.size())));
            for (String ask : portion) {
                long want = Script.answer(plain, ask);
                Due.is(what + ": " + ask, Script.answer(other, ask), want);
            }
        }
    }

    private static BuildCache madeBy(List<String> calls) {
        BuildCache x = new BuildCache();
        for (String call : calls) Script.answer(x, call);
        return x;
    }

    /** All that can be asked without a change. */
    private static List<String> looks(List<String> before) {
        BuildCache x = madeBy(before);
        int paths = x.count(0);
        int actions = x.count(1);
        List<String> asks = new ArrayList<>(Script.lines(
            Script.range("count #", 0, 10), Script.each("isClean #", 0, 1)));
        for (int p = 0; p < paths; p++) asks.addAll(Script.lines(Script.range("of " + p + " #", 0, 3)));
        for (int s = 0; s < 2; s++) {
            for (int p = 1; p < paths; p++) {
                asks.add("length " + s + " " + p);
                asks.addAll(Script.lines(Script.range("byteAt " + s + " " + p + " #", 0, x.length(s, p))));
            }
            for (int a = 0; a < actions; a++) {
                asks.add("changed " + s + " " + a);
                asks.add("key " + s + " " + a);
            }
        }
        for (int a = 0; a < actions; a++) {
            asks.addAll(Script.lines(Script.range("about " + a + " #", 0, 3), Script.range("uses " + a + " #", 0, Math.min(actions, 8) - 1)));
        }
        for (int i = 0; i < x.count(3); i++) asks.addAll(Script.lines(Script.range("entry " + i + " #", 0, 4)));
        for (int i = 0; i < x.count(6); i++) asks.addAll(Script.lines(Script.range("done " + i + " #", 0, 3)));
        return asks;
    }

    /** Calls that show, by what is refused and what not, where each PATH, NAME, INPUT, OUTPUT and STEP stands. */
    private static List<List<String>> enumerations(List<String> before) {
        BuildCache x = madeBy(before);
        List<String> paths = new ArrayList<>();
        List<String> inputs = new ArrayList<>();
        List<String> outputs = new ArrayList<>();
        List<String> erasures = new ArrayList<>();
        for (int p = 0; p < x.count(0); p++) {
            paths.addAll(Script.lines(Script.each("path " + p + " # file", 1, 2, 3, 26)));
            for (int a = 0; a < x.count(1); a++) {
                inputs.add("input " + a + " " + p);
                outputs.add("output " + a + " " + p);
            }
        }
        for (int a = 0; a < x.count(1); a++) {
            erasures.add("step " + a + " 3 0");
            erasures.add("erase " + a);
        }
        erasures.add("action");
        return List.of(paths, inputs, outputs, erasures);
    }

    private static List<String> nextCalls(List<String> before) {
        BuildCache x = madeBy(before);
        List<String> next = new ArrayList<>(List.of("build 0 -1", "build 1 -1", "copy 0", "copy 1", "capacity 0", "forget", "feed 1 1"));
        for (int p = 1; p < x.count(0); p++) {
            if (x.of(p, 2) == 1 || x.of(p, 3) != BuildCache.NONE) continue;
            // THE TAPE shows only in a FILE.
            next.add("write 0 " + p);
            break;
        }
        return next;
    }
}
