import java.util.ArrayList;

/**
 * A cache of builds that is led by what files have in them. The face below tests
 * every argument; the classes inside it are handed only what has been tested.
 */
public final class BuildCache {
    public static final int NONE = -1, BAD = -2, KIND = -3, TWICE = -4, CIRCLE = -5, FULL = -6;

    private static final int MOST_PATHS = 60;
    private static final int MOST_NAME = 26;
    private static final int MOST_BYTES = 64;
    private static final int MOST_ACTIONS = 40;
    private static final int MOST_INPUTS = 6;
    private static final int MOST_OUTPUTS = 3;
    private static final int MOST_STEPS = 16;
    private static final int MOST_STEP = 13;
    private static final int MOST_VALUE = 255;
    private static final int MOST_ENTRIES = 100;
    private static final int MOST_CAPACITY = 4000;
    private static final int FIRST_CAPACITY = 1000;
    private static final int ENTRY_SIZE = 16;

    // Three counts, two numbers a STEP, and INPUTS that are all FILES as long as can be.
    private static final int MOST_KEY = 3 + 2 * MOST_STEPS + MOST_INPUTS * (1 + MOST_BYTES);

    private static final int SPACES = 2;

    private static final int READ = 0, BYTE = 1, LIST = 2, WRITE = 3, TURN = 4, SORT = 5, TALLY = 6;
    private static final int SUM = 7, CUT = 8, SKIP = 9, ONCE = 10, FAIL = 11, MIX = 12;

    private static final int MISSING = 1, LONG = 2, INDEX = 3, OTHER_KIND = 4, FAILED = 5;

    private static final int KEY_HEAD = 1, KEY_INPUT = 10;
    private static final long NO_ENTRY = 1L << 63;

    private final Tree tree = new Tree();
    private final Content tape = new Content();
    private final Graph graph = new Graph();
    private final Cache cache = new Cache();
    private final Runner runner = new Runner();
    private final Log log = new Log();
    private final Key present = new Key();
    private final Outcome trial = new Outcome();

    public BuildCache() {
        tape.size = 0;
    }

    // ---- files

    public int path(int parent, int name, boolean isDirectory) {
        if (!tree.has(parent) || name < 1 || name > MOST_NAME) return BAD;
        if (!tree.at(parent).isDirectory) return KIND;
        if (tree.isTaken(parent, name)) return TWICE;
        if (tree.size() >= MOST_PATHS) return FULL;
        return tree.add(parent, name, isDirectory);
    }

    public int of(int path, int what) {
        if (!tree.has(path)) return BAD;
        Path it = tree.at(path);
        switch (what) {
            case 0: return it.parent;
            case 1: return it.name;
            case 2: return it.isDirectory ? 1 : 0;
            case 3: return it.maker;
            default: return BAD;
        }
    }

    public int feed(long w, int n) {
        if (n < 1 || n > 8) return BAD;
        if (tape.size + n > MOST_BYTES) return FULL;
        for (int i = n - 1; i >= 0; i--) tape.append((int) (w >>> (8 * i)) & MOST_VALUE);
        return tape.size;
    }

    public int write(int space, int path) {
        int refusal = refusalOfSource(space, path);
        if (refusal != 0) return refusal;
        tree.at(path).contents[space].become(tape);
        tape.size = 0;
        return tree.at(path).contents[space].size;
    }

    public int remove(int space, int path) {
        int refusal = refusalOfSource(space, path);
        if (refusal != 0) return refusal;
        Content content = tree.at(path).contents[space];
        int had = content.size;
        content.size = NONE;
        return had;
    }

    public int copy(int space) {
        if (!isSpace(space)) return BAD;
        return tree.copySources(1 - space, space);
    }

    public int length(int space, int path) {
        int refusal = refusalOfFile(space, path);
        if (refusal != 0) return refusal;
        return tree.at(path).contents[space].size;
    }

    public int byteAt(int space, int path, int i) {
        int refusal = refusalOfFile(space, path);
        if (refusal != 0) return refusal;
        Content content = tree.at(path).contents[space];
        if (i < 0 || i >= content.size) return BAD;
        return content.bytes[i];
    }

    // ---- actions

    public int action() {
        if (graph.size() >= MOST_ACTIONS) return FULL;
        return graph.add();
    }

    public int input(int action, int path) {
        if (!graph.has(action) || !tree.has(path)) return BAD;
        Action it = graph.at(action);
        Path file = tree.at(path);
        if (it.hasInput(path)) return TWICE;
        if (graph.wouldCircleByInput(action, file)) return CIRCLE;
        if (it.inputs.size() >= MOST_INPUTS) return FULL;
        it.inputs.add(file);
        graph.renewUses();
        return it.inputs.size();
    }

    public int output(int action, int path) {
        if (!graph.has(action) || !tree.has(path)) return BAD;
        Action it = graph.at(action);
        Path file = tree.at(path);
        if (file.isDirectory) return KIND;
        if (file.maker != NONE) return TWICE;
        if (graph.wouldCircleByOutput(action, file)) return CIRCLE;
        if (it.outputs.size() >= MOST_OUTPUTS) return FULL;
        it.outputs.add(file);
        file.madeBy(action);
        graph.renewUses();
        return it.outputs.size();
    }

    public int step(int action, int number, int v) {
        if (!graph.has(action) || number < 0 || number > MOST_STEP || v < 0 || v > MOST_VALUE) return BAD;
        return graph.at(action).addStep(number, v);
    }

    public int erase(int action) {
        if (!graph.has(action)) return BAD;
        int had = graph.at(action).strip();
        graph.renewUses();
        return had;
    }

    public int about(int action, int what) {
        if (!graph.has(action)) return BAD;
        Action it = graph.at(action);
        switch (what) {
            case 0: return it.inputs.size();
            case 1: return it.outputs.size();
            case 2: return it.steps;
            case 3: return Long.bitCount(it.used);
            default: return BAD;
        }
    }

    public int uses(int a, int b) {
        if (!graph.has(a) || !graph.has(b)) return BAD;
        return (graph.at(a).used & bit(b)) != 0 ? 1 : 0;
    }

    // ---- builds

    public int build(int space, int path) {
        if (!isSpace(space) || path != NONE && !tree.has(path)) return BAD;
        long open = path == NONE ? graph.all() : graph.withAllUsed(tree.at(path).makers());
        int ranBefore = log.ran;
        log.begin();
        for (int turn = 0; turn < MOST_ACTIONS && open != 0; turn++) {
            int least = graph.leastReady(open);
            if (least == NONE) break;
            carryOut(space, least);
            open &= ~bit(least);
        }
        return log.ran - ranBefore;
    }

    public int done(int i, int what) {
        if (i < 0 || i >= log.size || what < 0 || what >= Log.PARTS) return BAD;
        return log.deeds[what][i];
    }

    public int changed(int space, int action) {
        if (!isSpace(space) || !graph.has(action)) return BAD;
        present.describe(graph.at(action), space);
        return present.changeSince(graph.at(action).latest[space]);
    }

    public long key(int space, int action) {
        if (!isSpace(space) || !graph.has(action)) return 0;
        present.describe(graph.at(action), space);
        return present.sign();
    }

    public int isClean(int space) {
        if (!isSpace(space)) return BAD;
        // No order and no place for new OUTPUTS are needed: if some would be others, the first ACTION in the
        // told order that has one would be RUN on just the INPUTS that stand now, and so it is met here.
        for (int a = 0; a < graph.size(); a++) {
            runner.run(graph.at(a), space, trial);
            if (!graph.at(a).hasOutcome(trial, space)) return 0;
        }
        return 1;
    }

    // ---- the cache

    public int capacity(int n) {
        if (n < 0 || n > MOST_CAPACITY) return BAD;
        cache.capacity = n;
        return cache.evictExcess();
    }

    public long entry(int i, int what) {
        if (i < 0 || i >= cache.row.size()) return NO_ENTRY;
        Entry it = cache.row.get(i);
        switch (what) {
            case 0: return it.sign;
            case 1: return it.outcome.size();
            case 2: return it.outcome.failure;
            case 3: return it.found;
            case 4: return it.outcome.outputs;
            default: return NO_ENTRY;
        }
    }

    public int forget() {
        return cache.dropAll();
    }

    public int count(int what) {
        switch (what) {
            case 0: return tree.size();
            case 1: return graph.size();
            case 2: return tape.size;
            case 3: return cache.row.size();
            case 4: return cache.sizes;
            case 5: return cache.capacity;
            case 6: return log.size;
            case 7: return log.ran;
            case 8: return log.found;
            case 9: return cache.evicted;
            case 10: return log.builds;
            default: return BAD;
        }
    }

    public int clear() {
        tree.reset();
        tape.size = 0;
        graph.actions.clear();
        cache.reset();
        log.reset();
        return 1;
    }

    private static boolean isSpace(int space) {
        return space >= 0 && space < SPACES;
    }

    private static long bit(int action) {
        return action < 0 || action >= MOST_ACTIONS ? 0 : 1L << action;
    }

    private int refusalOfFile(int space, int path) {
        if (!isSpace(space) || !tree.has(path)) return BAD;
        return tree.at(path).isDirectory ? KIND : 0;
    }

    private int refusalOfSource(int space, int path) {
        int refusal = refusalOfFile(space, path);
        if (refusal != 0) return refusal;
        return tree.at(path).maker != NONE ? KIND : 0;
    }

    private void carryOut(int space, int number) {
        Action action = graph.at(number);
        present.describe(action, space);
        int change = present.changeSince(action.latest[space]);
        int place = cache.find(present);
        boolean isRun = place == NONE;
        Entry entry = isRun ? cache.unused(present) : cache.use(place);
        if (isRun) runner.run(action, space, entry.outcome);
        action.takeOutcome(entry.outcome, space);
        action.latest[space].become(present);
        log.add(number, isRun, entry.outcome.failure, change);
        // Last of all, as a new entry may be evicted, and so be free for another use, at once.
        if (isRun) cache.add(entry);
    }

    /**
     * Bytes, 64 at most: of a FILE in a SPACE, of THE TAPE, or of a PROGRAM's ROW.
     * Its size is NONE while a FILE is ABSENT.
     */
    private static final class Content {
        final int[] bytes = new int[MOST_BYTES];
        int size = NONE;

        boolean isAbsent() {
            return size == NONE;
        }

        boolean append(int value) {
            if (size < 0 || size >= MOST_BYTES) return false;
            bytes[size] = value;
            size++;
            return true;
        }

        boolean appendAll(Content other) {
            // The size is taken once, as a ROW may be put behind itself.
            int more = other.size;
            for (int i = 0; i < more; i++) {
                if (!append(other.bytes[i])) return false;
            }
            return true;
        }

        void become(Content other) {
            size = other.size;
            for (int i = 0; i < size; i++) bytes[i] = other.bytes[i];
        }

        boolean sameAs(Content other) {
            if (size != other.size) return false;
            for (int i = 0; i < size; i++) {
                if (bytes[i] != other.bytes[i]) return false;
            }
            return true;
        }

        void turn() {
            for (int i = 0; i < size / 2; i++) {
                int front = bytes[i];
                bytes[i] = bytes[size - 1 - i];
                bytes[size - 1 - i] = front;
            }
        }

        void sort() {
            for (int i = 1; i < size; i++) {
                int value = bytes[i];
                int place = i;
                while (place > 0 && bytes[place - 1] > value) {
                    bytes[place] = bytes[place - 1];
                    place--;
                }
                bytes[place] = value;
            }
        }

        int sum() {
            int sum = 0;
            for (int i = 0; i < size; i++) sum += bytes[i];
            return sum;
        }

        void becomeFigures(int number) {
            // An int that is not negative has ten figures at most.
            int rest = number;
            size = 0;
            for (int figures = 0; figures < 10 && (figures == 0 || rest > 0); figures++) {
                append('0' + rest % 10);
                rest /= 10;
            }
            turn();
        }

        void cut(int most) {
            if (size > most) size = most;
        }

        void keepFirstOnes() {
            int kept = 0;
            for (int i = 0; i < size; i++) {
                if (!isAmongFirst(kept, bytes[i])) {
                    bytes[kept] = bytes[i];
                    kept++;
                }
            }
            size = kept;
        }

        private boolean isAmongFirst(int many, int value) {
            for (int i = 0; i < many; i++) {
                if (bytes[i] == value) return true;
            }
            return false;
        }

        void mix(int value) {
            for (int i = 0; i < size; i++) bytes[i] ^= value;
        }
    }

    /** A FILE or a DIRECTORY; both can be asked alike, as a FILE has no files and a DIRECTORY is ABSENT and never MADE. */
    private static final class Path {
        final int number;
        final int parent;
        final int name;
        final boolean isDirectory;
        final Content[] contents = new Content[SPACES];
        // The FILES that stand in a DIRECTORY, by rising NAME, as they are LISTED.
        final ArrayList<Path> files = new ArrayList<Path>();
        int maker = NONE;

        Path(int number, int parent, int name, boolean isDirectory) {
            this.number = number;
            this.parent = parent;
            this.name = name;
            this.isDirectory = isDirectory;
            for (int space = 0; space < contents.length; space++) contents[space] = new Content();
        }

        void addFile(Path file) {
            int place = 0;
            while (place < files.size() && files.get(place).name < file.name) place++;
            files.add(place, file);
        }

        void madeBy(int action) {
            maker = action;
            for (int space = 0; space < contents.length; space++) contents[space].size = NONE;
        }

        long makers() {
            long mask = bit(maker);
            for (int i = 0; i < files.size(); i++) mask |= bit(files.get(i).maker);
            return mask;
        }

        int listed(int space) {
            int many = 0;
            for (int i = 0; i < files.size(); i++) {
                if (!files.get(i).contents[space].isAbsent()) many++;
            }
            return many;
        }
    }

    /** All PATHS, by their numbers. */
    private static final class Tree {
        private final ArrayList<Path> paths = new ArrayList<Path>();

        Tree() {
            reset();
        }

        void reset() {
            paths.clear();
            paths.add(new Path(0, NONE, 0, true));
        }

        int size() {
            return paths.size();
        }

        boolean has(int path) {
            return path >= 0 && path < paths.size();
        }

        Path at(int path) {
            return paths.get(path);
        }

        boolean isTaken(int parent, int name) {
            for (int i = 1; i < paths.size(); i++) {
                if (paths.get(i).parent == parent && paths.get(i).name == name) return true;
            }
            return false;
        }

        int add(int parent, int name, boolean isDirectory) {
            Path path = new Path(paths.size(), parent, name, isDirectory);
            paths.add(path);
            if (!isDirectory) at(parent).addFile(path);
            return path.number;
        }

        int copySources(int from, int to) {
            int others = 0;
            for (int i = 0; i < paths.size(); i++) {
                Path path = paths.get(i);
                if (path.maker != NONE || path.contents[to].sameAs(path.contents[from])) continue;
                path.contents[to].become(path.contents[from]);
                others++;
            }
            return others;
        }
    }

    /** An ACTION, with the KEY of the latest time that it was DONE in each SPACE. */
    private static final class Action {
        final ArrayList<Path> inputs = new ArrayList<Path>();
        final ArrayList<Path> outputs = new ArrayList<Path>();
        final int[] numbers = new int[MOST_STEPS];
        final int[] values = new int[MOST_STEPS];
        final Key[] latest = new Key[SPACES];
        int steps = 0;
        long used = 0;

        Action() {
            for (int space = 0; space < latest.length; space++) latest[space] = new Key();
        }

        boolean hasInput(int path) {
            for (int i = 0; i < inputs.size(); i++) {
                if (inputs.get(i).number == path) return true;
            }
            return false;
        }

        int addStep(int number, int v) {
            if (steps >= MOST_STEPS) return FULL;
            numbers[steps] = number;
            values[steps] = v;
            steps++;
            return steps;
        }

        int strip() {
            int had = steps;
            for (int i = 0; i < outputs.size(); i++) outputs.get(i).madeBy(NONE);
            inputs.clear();
            outputs.clear();
            steps = 0;
            return had;
        }

        void takeOutcome(Outcome outcome, int space) {
            for (int i = 0; i < outputs.size() && i < MOST_OUTPUTS; i++) {
                outputs.get(i).contents[space].become(outcome.contents[i]);
            }
        }

        boolean hasOutcome(Outcome outcome, int space) {
            for (int i = 0; i < outputs.size() && i < MOST_OUTPUTS; i++) {
                if (!outputs.get(i).contents[space].sameAs(outcome.contents[i])) return false;
            }
            return true;
        }
    }

    /** All ACTIONS, by their numbers, and which USE which; a set of ACTIONS is a long with a bit for each. */
    private static final class Graph {
        final ArrayList<Action> actions = new ArrayList<Action>();

        int size() {
            return actions.size();
        }

        boolean has(int action) {
            return action >= 0 && action < actions.size();
        }

        Action at(int action) {
            return actions.get(action);
        }

        int add() {
            actions.add(new Action());
            return actions.size() - 1;
        }

        long all() {
            return (1L << actions.size()) - 1;
        }

        void renewUses() {
            for (int a = 0; a < actions.size(); a++) {
                Action action = actions.get(a);
                action.used = 0;
                for (int i = 0; i < action.inputs.size(); i++) action.used |= action.inputs.get(i).makers();
            }
        }

        long withAllUsed(long some) {
            long all = some;
            long before = 0;
            for (int round = 0; round <= actions.size() && all != before; round++) {
                before = all;
                for (int a = 0; a < actions.size(); a++) {
                    if ((all & bit(a)) != 0) all |= actions.get(a).used;
                }
            }
            return all;
        }

        boolean wouldCircleByInput(int action, Path input) {
            return (withAllUsed(input.makers()) & bit(action)) != 0;
        }

        boolean wouldCircleByOutput(int action, Path output) {
            long reached = withAllUsed(bit(action));
            for (int a = 0; a < actions.size(); a++) {
                if ((reached & bit(a)) == 0) continue;
                if (actions.get(a).hasInput(output.number) || actions.get(a).hasInput(output.parent)) return true;
            }
            return false;
        }

        int leastReady(long open) {
            for (int a = 0; a < actions.size(); a++) {
                if ((open & bit(a)) != 0 && (actions.get(a).used & open) == 0) return a;
            }
            return NONE;
        }
    }

    /** THE KEY of an ACTION, and where the parts of its INPUTS end in it; while it is empty, there is none yet. */
    private static final class Key {
        private final int[] numbers = new int[MOST_KEY];
        private final int[] ends = new int[MOST_INPUTS];
        private int size = 0;
        private int parts = 0;
        private int head = 0;

        void describe(Action action, int space) {
            size = 0;
            parts = 0;
            put(action.outputs.size());
            put(action.steps);
            for (int i = 0; i < action.steps; i++) {
                put(action.numbers[i]);
                put(action.values[i]);
            }
            put(action.inputs.size());
            head = size;
            for (int i = 0; i < action.inputs.size() && i < MOST_INPUTS; i++) {
                putPart(action.inputs.get(i), space);
                ends[i] = size;
                parts++;
            }
        }

        private void putPart(Path input, int space) {
            if (input.isDirectory) putListed(input, space);
            else putContent(input.contents[space]);
        }

        private void putListed(Path directory, int space) {
            put(-2);
            put(directory.listed(space));
            for (int i = 0; i < directory.files.size(); i++) {
                Path file = directory.files.get(i);
                if (!file.contents[space].isAbsent()) put(file.name);
            }
        }

        private void putContent(Content content) {
            // The size of one that is ABSENT is the very number that the KEY has for it.
            put(content.size);
            for (int i = 0; i < content.size; i++) put(content.bytes[i]);
        }

        private void put(int number) {
            if (size >= MOST_KEY) return;
            numbers[size] = number;
            size++;
        }

        // Where the parts end is asked only of a KEY that was described just now, so it isn't taken over.
        void become(Key other) {
            size = other.size;
            for (int i = 0; i < size; i++) numbers[i] = other.numbers[i];
        }

        long sign() {
            long h = 1469598103934665603L;
            for (int i = 0; i < size; i++) h = (h ^ numbers[i]) * 1099511628211L;
            return h;
        }

        boolean sameAs(Key other) {
            return size == other.size && firstOther(other) == size;
        }

        private int firstOther(Key other) {
            int place = 0;
            while (place < size && place < other.size && numbers[place] == other.numbers[place]) place++;
            return place;
        }

        // The numbers ahead of a place tell what stands there, so two KEYS that are alike up to it
        // have the same part there: the first number that is another tells the first part that is.
        int changeSince(Key former) {
            if (former.size == 0) return NONE;
            if (sameAs(former)) return 0;
            int place = firstOther(former);
            if (place < head) return KEY_HEAD;
            int part = 0;
            while (part < parts - 1 && place >= ends[part]) part++;
            return KEY_INPUT + part;
        }
    }

    /** What an ACTION COMES TO. */
    private static final class Outcome {
        final Content[] contents = new Content[MOST_OUTPUTS];
        int outputs = 0;
        int failure = 0;

        Outcome() {
            for (int i = 0; i < contents.length; i++) contents[i] = new Content();
        }

        void begin(int many) {
            outputs = Math.min(many, MOST_OUTPUTS);
            fail(0);
        }

        void fail(int reason) {
            failure = reason;
            for (int i = 0; i < contents.length; i++) contents[i].size = NONE;
        }

        int size() {
            int size = ENTRY_SIZE;
            for (int i = 0; i < outputs; i++) size += Math.max(0, contents[i].size);
            return size;
        }
    }

    /** Runs PROGRAMS; it changes no FILE, only the Outcome that it is given. */
    private static final class Runner {
        private final Content row = new Content();
        private boolean passesOver = false;

        void run(Action action, int space, Outcome outcome) {
            outcome.begin(action.outputs.size());
            row.size = 0;
            passesOver = false;
            for (int i = 0; i < action.steps; i++) {
                if (passesOver) {
                    passesOver = false;
                    continue;
                }
                int failure = perform(action, i, space, outcome);
                if (failure != 0) {
                    outcome.fail(failure);
                    return;
                }
            }
        }

        private int perform(Action action, int i, int space, Outcome outcome) {
            int v = action.values[i];
            switch (action.numbers[i]) {
                case READ: return readInput(action, v, space);
                case BYTE: return row.append(v) ? 0 : LONG;
                case LIST: return listInput(action, v, space);
                case WRITE: return writeOutput(outcome, v);
                case SKIP: return skipFor(action, v, space);
                case FAIL: return FAILED;
                default: return reshape(action.numbers[i], v);
            }
        }

        private int reshape(int number, int v) {
            switch (number) {
                case TURN: row.turn(); return 0;
                case SORT: row.sort(); return 0;
                case TALLY: row.becomeFigures(row.size); return 0;
                case SUM: row.becomeFigures(row.sum()); return 0;
                case CUT: row.cut(v); return 0;
                case ONCE: row.keepFirstOnes(); return 0;
                case MIX: row.mix(v); return 0;
                default: return row.appendAll(row) ? 0 : LONG;
            }
        }

        private int readInput(Action action, int v, int space) {
            if (v >= action.inputs.size()) return INDEX;
            Path input = action.inputs.get(v);
            if (input.isDirectory) return OTHER_KIND;
            if (input.contents[space].isAbsent()) return MISSING;
            return row.appendAll(input.contents[space]) ? 0 : LONG;
        }

        private int listInput(Action action, int v, int space) {
            if (v >= action.inputs.size()) return INDEX;
            Path input = action.inputs.get(v);
            if (!input.isDirectory) return OTHER_KIND;
            for (int i = 0; i < input.files.size(); i++) {
                Path file = input.files.get(i);
                if (!file.contents[space].isAbsent() && !row.append(96 + file.name)) return LONG;
            }
            return 0;
        }

        private int writeOutput(Outcome outcome, int v) {
            if (v >= outcome.outputs) return INDEX;
            outcome.contents[v].become(row);
            row.size = 0;
            return 0;
        }

        private int skipFor(Action action, int v, int space) {
            if (v >= action.inputs.size()) return INDEX;
            Path input = action.inputs.get(v);
            if (input.isDirectory) return OTHER_KIND;
            passesOver = !input.contents[space].isAbsent();
            return 0;
        }
    }

    private static final class Entry {
        final Key key = new Key();
        final Outcome outcome = new Outcome();
        long sign = 0;
        int found = 0;

        void begin(Key asked) {
            key.become(asked);
            sign = asked.sign();
            found = 0;
        }
    }

    /** THE CACHE. Entries that went are used again, so that no run makes more than can stand at once. */
    private static final class Cache {
        final ArrayList<Entry> row = new ArrayList<Entry>();
        private final ArrayList<Entry> spare = new ArrayList<Entry>();
        int capacity = FIRST_CAPACITY;
        int sizes = 0;
        int evicted = 0;

        void reset() {
            dropAll();
            capacity = FIRST_CAPACITY;
            evicted = 0;
        }

        int find(Key key) {
            long sign = key.sign();
            for (int i = 0; i < row.size(); i++) {
                // Two KEYS may share a SIGN, so the rows themselves decide.
                if (row.get(i).sign == sign && row.get(i).key.sameAs(key)) return i;
            }
            return NONE;
        }

        Entry use(int place) {
            Entry entry = row.remove(place);
            row.add(entry);
            entry.found++;
            return entry;
        }

        Entry unused(Key asked) {
            Entry entry = spare.isEmpty() ? new Entry() : spare.remove(spare.size() - 1);
            entry.begin(asked);
            return entry;
        }

        void add(Entry entry) {
            row.add(entry);
            sizes += entry.outcome.size();
            evictExcess();
        }

        int evictExcess() {
            int went = 0;
            while (!row.isEmpty() && (sizes > capacity || row.size() > MOST_ENTRIES)) {
                Entry first = row.remove(0);
                sizes -= first.outcome.size();
                spare.add(first);
                went++;
            }
            evicted += went;
            return went;
        }

        int dropAll() {
            int had = row.size();
            for (int i = 0; i < had; i++) spare.add(row.get(i));
            row.clear();
            sizes = 0;
            return had;
        }
    }

    /** What the latest BUILD did, and how much was done in all. */
    private static final class Log {
        static final int PARTS = 4;
        final int[][] deeds = new int[PARTS][MOST_ACTIONS];
        int size = 0;
        int ran = 0;
        int found = 0;
        int builds = 0;

        void reset() {
            size = 0;
            ran = 0;
            found = 0;
            builds = 0;
        }

        void begin() {
            size = 0;
            builds++;
        }

        void add(int action, boolean wasRun, int failure, int change) {
            if (size >= MOST_ACTIONS) return;
            deeds[0][size] = action;
            deeds[1][size] = wasRun ? 1 : 0;
            deeds[2][size] = failure;
            deeds[3][size] = change;
            size++;
            if (wasRun) ran++;
            else found++;
        }
    }
}
