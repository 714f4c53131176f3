import java.util.ArrayList;
import java.util.Arrays;
import java.util.Collections;
import java.util.List;
import java.util.TreeSet;

/**
 * The document once more, as plainly as Java's library allows and with nothing kept that can be
 * worked out anew. It shares no line with BuildCache, so that a slip in one shows against the other.
 */
public final class Model {
    private record Place(int parent, int name, boolean isDirectory) {
    }

    private record Step(int number, int v) {
    }

    private static final class Act {
        final List<Integer> inputs = new ArrayList<>();
        final List<Integer> outputs = new ArrayList<>();
        final List<Step> steps = new ArrayList<>();
        // A KEY as its parts: the head, then one a INPUT.
        final List<List<List<Long>>> latest = new ArrayList<>(Arrays.asList(null, null));
    }

    private record Result(int failure, List<String> contents) {
        int size() {
            int size = 16;
            for (String content : contents) size += content == null ? 0 : content.length();
            return size;
        }
    }

    private static final class Kept {
        List<List<Long>> key;
        Result result;
        int found;
    }

    private List<Place> places;
    private List<List<String>> files;
    private List<Act> acts;
    private List<Kept> row;
    private List<long[]> deeds;
    private String tape;
    private int capacity;
    private int ran;
    private int found;
    private int evicted;
    private int builds;

    public Model() {
        clear();
    }

    public int clear() {
        places = new ArrayList<>(List.of(new Place(-1, 0, true)));
        files = new ArrayList<>();
        for (int s = 0; s < 2; s++) files.add(new ArrayList<>(Collections.singletonList((String) null)));
        acts = new ArrayList<>();
        row = new ArrayList<>();
        deeds = new ArrayList<>();
        tape = "";
        capacity = 1000;
        ran = 0;
        found = 0;
        evicted = 0;
        builds = 0;
        return 1;
    }

    private boolean noPath(int p) {
        return p < 0 || p >= places.size();
    }

    private boolean noSpace(int s) {
        return s != 0 && s != 1;
    }

    private boolean noAct(int a) {
        return a < 0 || a >= acts.size();
    }

    private int makerOf(int p) {
        for (int a = 0; a < acts.size(); a++) if (acts.get(a).outputs.contains(p)) return a;
        return -1;
    }

    private List<Integer> filesIn(int dir) {
        List<Integer> in = new ArrayList<>();
        for (int p = 1; p < places.size(); p++) {
            if (places.get(p).parent == dir && !places.get(p).isDirectory) in.add(p);
        }
        return in;
    }

    public int path(int parent, int name, boolean isDirectory) {
        if (noPath(parent) || name < 1 || name > 26) return -2;
        if (!places.get(parent).isDirectory) return -3;
        for (Place place : places) if (place.parent == parent && place.name == name) return -4;
        if (places.size() == 60) return -6;
        places.add(new Place(parent, name, isDirectory));
        for (List<String> space : files) space.add(null);
        return places.size() - 1;
    }

    public int of(int path, int what) {
        if (noPath(path) || what < 0 || what > 3) return -2;
        Place place = places.get(path);
        int[] all = {place.parent, place.name, place.isDirectory ? 1 : 0, makerOf(path)};
        return all[what];
    }

    public int feed(long w, int n) {
        if (n < 1 || n > 8) return -2;
        if (tape.length() + n > 64) return -6;
        StringBuilder hex = new StringBuilder(Long.toHexString(w));
        while (hex.length() < 16) hex.insert(0, '0');
        for (int i = 8 - n; i < 8; i++) tape += (char) Integer.parseInt(hex.substring(2 * i, 2 * i + 2), 16);
        return tape.length();
    }

    private int noSource(int space, int path) {
        if (noSpace(space) || noPath(path)) return -2;
        return places.get(path).isDirectory || makerOf(path) != -1 ? -3 : 0;
    }

    public int write(int space, int path) {
        int no = noSource(space, path);
        if (no != 0) return no;
        files.get(space).set(path, tape);
        tape = "";
        return files.get(space).get(path).length();
    }

    public int remove(int space, int path) {
        int no = noSource(space, path);
        if (no != 0) return no;
        String had = files.get(space).set(path, null);
        return had == null ? -1 : had.length();
    }

    public int copy(int space) {
        if (noSpace(space)) return -2;
        int others = 0;
        for (int p = 0; p < places.size(); p++) {
            if (makerOf(p) != -1) continue;
            String now = files.get(1 - space).get(p);
            String was = files.get(space).set(p, now);
            if (now == null ? was != null : !now.equals(was)) others++;
        }
        return others;
    }

    public int length(int space, int path) {
        if (noSpace(space) || noPath(path)) return -2;
        if (places.get(path).isDirectory) return -3;
        String content = files.get(space).get(path);
        return content == null ? -1 : content.length();
    }

    public int byteAt(int space, int path, int i) {
        int length = length(space, path);
        if (length < -1) return length;
        return i < 0 || i >= length ? -2 : files.get(space).get(path).charAt(i);
    }

    public int action() {
        if (acts.size() == 40) return -6;
        acts.add(new Act());
        return acts.size() - 1;
    }

    private boolean isUsing(int a, int b) {
        for (int p : acts.get(a).inputs) {
            for (int q : acts.get(b).outputs) {
                if (p == q || places.get(q).parent == p) return true;
            }
        }
        return false;
    }

    private TreeSet<Integer> cameTo(int a) {
        TreeSet<Integer> reached = new TreeSet<>();
        List<Integer> open = new ArrayList<>(List.of(a));
        while (!open.isEmpty()) {
            int next = open.remove(0);
            for (int b = 0; b < acts.size(); b++) if (isUsing(next, b) && reached.add(b)) open.add(b);
        }
        return reached;
    }

    private boolean hasCircle() {
        for (int a = 0; a < acts.size(); a++) if (cameTo(a).contains(a)) return true;
        return false;
    }

    public int input(int action, int path) {
        if (noAct(action) || noPath(path)) return -2;
        List<Integer> inputs = acts.get(action).inputs;
        if (inputs.contains(path)) return -4;
        inputs.add(path);
        int no = hasCircle() ? -5 : inputs.size() > 6 ? -6 : 0;
        if (no != 0) inputs.remove(inputs.size() - 1);
        return no != 0 ? no : inputs.size();
    }

    public int output(int action, int path) {
        if (noAct(action) || noPath(path)) return -2;
        if (places.get(path).isDirectory) return -3;
        if (makerOf(path) != -1) return -4;
        List<Integer> outputs = acts.get(action).outputs;
        outputs.add(path);
        int no = hasCircle() ? -5 : outputs.size() > 3 ? -6 : 0;
        if (no != 0) outputs.remove(outputs.size() - 1);
        else for (List<String> space : files) space.set(path, null);
        return no != 0 ? no : outputs.size();
    }

    public int step(int action, int number, int v) {
        if (noAct(action) || number < 0 || number > 13 || v < 0 || v > 255) return -2;
        if (acts.get(action).steps.size() == 16) return -6;
        acts.get(action).steps.add(new Step(number, v));
        return acts.get(action).steps.size();
    }

    public int erase(int action) {
        if (noAct(action)) return -2;
        Act act = acts.get(action);
        int had = act.steps.size();
        for (int p : act.outputs) for (List<String> space : files) space.set(p, null);
        act.inputs.clear();
        act.outputs.clear();
        act.steps.clear();
        return had;
    }

    public int about(int action, int what) {
        if (noAct(action) || what < 0 || what > 3) return -2;
        Act act = acts.get(action);
        int used = 0;
        for (int b = 0; b < acts.size(); b++) if (isUsing(action, b)) used++;
        return List.of(act.inputs.size(), act.outputs.size(), act.steps.size(), used).get(what);
    }

    public int uses(int a, int b) {
        if (noAct(a) || noAct(b)) return -2;
        return isUsing(a, b) ? 1 : 0;
    }

    private List<Long> listed(List<String> space, int dir) {
        TreeSet<Long> names = new TreeSet<>();
        for (int p : filesIn(dir)) if (space.get(p) != null) names.add((long) places.get(p).name);
        return new ArrayList<>(names);
    }

    private List<List<Long>> keyOf(List<String> space, Act act) {
        List<List<Long>> parts = new ArrayList<>();
        List<Long> head = new ArrayList<>(List.of((long) act.outputs.size(), (long) act.steps.size()));
        for (Step step : act.steps) head.addAll(List.of((long) step.number, (long) step.v));
        head.add((long) act.inputs.size());
        parts.add(head);
        for (int p : act.inputs) {
            List<Long> part = new ArrayList<>();
            if (places.get(p).isDirectory) {
                List<Long> names = listed(space, p);
                part.addAll(List.of(-2L, (long) names.size()));
                part.addAll(names);
            } else if (space.get(p) == null) {
                part.add(-1L);
            } else {
                part.add((long) space.get(p).length());
                for (char c : space.get(p).toCharArray()) part.add((long) c);
            }
            parts.add(part);
        }
        return parts;
    }

    private static long signOf(List<List<Long>> key) {
        long h = 1469598103934665603L;
        for (List<Long> part : key) for (long number : part) h = (h ^ number) * 1099511628211L;
        return h;
    }

    private static int changedSince(List<List<Long>> was, List<List<Long>> is) {
        if (was == null) return -1;
        if (!was.get(0).equals(is.get(0))) return 1;
        for (int i = 1; i < is.size(); i++) if (!was.get(i).equals(is.get(i))) return 9 + i;
        return 0;
    }

    private Result failed(Act act, int failure) {
        return new Result(failure, new ArrayList<>(Collections.nCopies(act.outputs.size(), (String) null)));
    }

    private Result run(List<String> space, Act act) {
        Result result = failed(act, 0);
        String text = "";
        for (int i = 0; i < act.steps.size(); i++) {
            int v = act.steps.get(i).v;
            int number = act.steps.get(i).number;
            boolean wantsInput = number == 0 || number == 2 || number == 9;
            if (wantsInput && v >= act.inputs.size()) return failed(act, 3);
            if (number == 3 && v >= act.outputs.size()) return failed(act, 3);
            int p = wantsInput ? act.inputs.get(v) : -1;
            if (wantsInput && places.get(p).isDirectory != (number == 2)) return failed(act, 4);
            if (number == 11) return failed(act, 5);
            if (number == 9 && space.get(p) != null) i++;
            if (number == 0 && space.get(p) == null) return failed(act, 1);
            if (number == 0) text += space.get(p);
            if (number == 1) text += (char) v;
            if (number == 2) for (long name : listed(space, p)) text += (char) (96 + name);
            if (number == 3) {
                result.contents.set(v, text);
                text = "";
            }
            text = shaped(text, number, v);
            if (text.length() > 64) return failed(act, 2);
        }
        return result;
    }

    private static String shaped(String text, int number, int v) {
        switch (number) {
            case 4: return new StringBuilder(text).reverse().toString();
            case 5:
                char[] chars = text.toCharArray();
                Arrays.sort(chars);
                return new String(chars);
            case 6: return "" + text.length();
            case 7: return "" + text.chars().sum();
            case 8: return text.substring(0, Math.min(v, text.length()));
            case 10:
                String once = "";
                for (char c : text.toCharArray()) if (once.indexOf(c) < 0) once += c;
                return once;
            case 12:
                String mixed = "";
                for (char c : text.toCharArray()) mixed += (char) (c ^ v);
                return mixed;
            case 13: return text + text;
            default: return text;
        }
    }

    private void settle(List<String> space, Act act, Result result) {
        for (int i = 0; i < act.outputs.size(); i++) space.set(act.outputs.get(i), result.contents.get(i));
    }

    private int evict() {
        int went = 0;
        while (row.size() > 100 || count(4) > capacity) {
            row.remove(0);
            went++;
        }
        evicted += went;
        return went;
    }

    private List<Integer> order(TreeSet<Integer> needed) {
        List<Integer> order = new ArrayList<>();
        while (order.size() < needed.size()) {
            int next = -1;
            for (int a : needed) {
                boolean isReady = !order.contains(a);
                for (int b : needed) if (isUsing(a, b) && !order.contains(b)) isReady = false;
                if (isReady && next == -1) next = a;
            }
            order.add(next);
        }
        return order;
    }

    public int build(int space, int path) {
        if (noSpace(space) || path != -1 && noPath(path)) return -2;
        TreeSet<Integer> needed = new TreeSet<>();
        for (int a = 0; a < acts.size(); a++) {
            boolean isAsked = path == -1;
            for (int q : acts.get(a).outputs) if (q == path || places.get(q).parent == path) isAsked = true;
            if (isAsked) {
                needed.add(a);
                needed.addAll(cameTo(a));
            }
        }
        builds++;
        deeds.clear();
        int runs = 0;
        for (int a : order(needed)) runs += carryOut(space, a);
        ran += runs;
        return runs;
    }

    private int carryOut(int space, int a) {
        Act act = acts.get(a);
        List<List<Long>> key = keyOf(files.get(space), act);
        int change = changedSince(act.latest.get(space), key);
        act.latest.set(space, key);
        Kept kept = null;
        for (Kept k : row) if (k.key.equals(key)) kept = k;
        int runs = kept == null ? 1 : 0;
        if (kept == null) {
            kept = new Kept();
            kept.key = key;
            kept.result = run(files.get(space), act);
            row.add(kept);
            evict();
        } else {
            kept.found++;
            found++;
            row.remove(kept);
            row.add(kept);
        }
        settle(files.get(space), act, kept.result);
        deeds.add(new long[] {a, runs, kept.result.failure, change});
        return runs;
    }

    public int done(int i, int what) {
        if (i < 0 || i >= deeds.size() || what < 0 || what > 3) return -2;
        return (int) deeds.get(i)[what];
    }

    public int changed(int space, int action) {
        if (noSpace(space) || noAct(action)) return -2;
        return changedSince(acts.get(action).latest.get(space), keyOf(files.get(space), acts.get(action)));
    }

    public long key(int space, int action) {
        if (noSpace(space) || noAct(action)) return 0;
        return signOf(keyOf(files.get(space), acts.get(action)));
    }

    public int isClean(int space) {
        if (noSpace(space)) return -2;
        List<String> anew = new ArrayList<>(files.get(space));
        TreeSet<Integer> all = new TreeSet<>();
        for (int a = 0; a < acts.size(); a++) all.add(a);
        for (int a : order(all)) settle(anew, acts.get(a), run(anew, acts.get(a)));
        return anew.equals(files.get(space)) ? 1 : 0;
    }

    public int capacity(int n) {
        if (n < 0 || n > 4000) return -2;
        capacity = n;
        return evict();
    }

    public long entry(int i, int what) {
        if (i < 0 || i >= row.size() || what < 0 || what > 4) return Long.MIN_VALUE;
        Kept kept = row.get(i);
        long[] all = {signOf(kept.key), kept.result.size(), kept.result.failure, kept.found, kept.result.contents.size()};
        return all[what];
    }

    public int forget() {
        int had = row.size();
        row.clear();
        return had;
    }

    public int count(int what) {
        if (what < 0 || what > 10) return -2;
        int sizes = 0;
        for (Kept kept : row) sizes += kept.result.size();
        int[] all = {places.size(), acts.size(), tape.length(), row.size(), sizes, capacity, deeds.size(), ran, found, evicted, builds};
        return all[what];
    }
}
