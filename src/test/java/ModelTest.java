import java.lang.reflect.InvocationTargetException;
import java.lang.reflect.Method;
import java.util.ArrayList;
import java.util.List;
import java.util.Random;

/** Long random runs, each answer compared with the Model's; the seeds are fixed, so a run that fails fails again. */
public final class ModelTest {
    private static final int RUNS = 1500, CALLS = 512, LAST_LOOK = 400;

    // How often each call comes, for each kind of run: small trees built
    // again and again, many actions, a tight cache, many files, long programs.
    private static final String[] CALL = {
        "path", "of", "feed", "write", "remove", "copy", "length", "byteAt", "action", "input", "output", "step", "erase",
        "about", "uses", "build", "done", "changed", "key", "isClean", "capacity", "entry", "forget", "count", "clear"};
    private static final int[][] WEIGHTS = {
        {20, 4, 20, 20, 4, 3, 8, 12, 12, 30, 30, 40, 1, 6, 6, 30, 20, 15, 8, 8, 2, 12, 1, 10, 0},
        {40, 2, 10, 12, 3, 2, 3, 4, 40, 60, 60, 60, 1, 4, 8, 20, 12, 10, 4, 4, 1, 6, 0, 6, 0},
        {30, 1, 15, 15, 6, 4, 2, 3, 20, 40, 40, 50, 6, 3, 4, 40, 20, 20, 3, 6, 8, 10, 1, 12, 1},
        {60, 8, 30, 30, 10, 8, 10, 10, 8, 12, 12, 12, 3, 4, 4, 12, 6, 6, 4, 4, 2, 4, 1, 8, 2},
        {10, 1, 60, 15, 2, 2, 2, 4, 6, 15, 15, 60, 2, 2, 2, 40, 20, 6, 4, 4, 3, 8, 0, 4, 0}};

    private static final Method[] REAL = methodsOf(BuildCache.class);
    private static final Method[] MODEL = methodsOf(Model.class);

    public static void main(String[] args) throws Exception {
        for (int run = 0; run < RUNS && Due.isAllRight(); run++) play(run);
        Due.end("ModelTest");
    }

    private static Method[] methodsOf(Class<?> face) {
        Method[] found = new Method[CALL.length];
        for (int i = 0; i < CALL.length; i++) {
            for (Method method : face.getDeclaredMethods()) if (method.getName().equals(CALL[i])) found[i] = method;
        }
        return found;
    }

    private record Call(int which, Object[] arguments) {
    }

    private static void play(int run) throws Exception {
        Random random = new Random(run);
        BuildCache x = new BuildCache();
        Model model = new Model();
        int[] weights = WEIGHTS[run % WEIGHTS.length];
        List<Call> calls = new ArrayList<>();
        for (int i = 0; i < CALLS && Due.isAllRight(); i++) {
            int which = pick(random, weights);
            Call call = new Call(which, argumentsOf(which, random, model));
            calls.add(call);
            compare(run, call, x, model);
            boolean isWorthALook = CALL[which].equals("build") && random.nextInt(4) == 0 || i == LAST_LOOK;
            if (isWorthALook && i <= LAST_LOOK) compareAll(run, calls, model);
        }
        if (!Due.isAllRight()) for (Call call : calls) System.out.println("    " + nameOf(call));
    }

    private static String nameOf(Call call) {
        return CALL[call.which] + List.of(call.arguments);
    }

    private static int pick(Random random, int[] weights) {
        int sum = 0;
        for (int weight : weights) sum += weight;
        int left = random.nextInt(sum);
        int which = 0;
        while (left >= weights[which]) left -= weights[which++];
        return which;
    }

    private static void compare(int run, Call call, BuildCache x, Model model) throws Exception {
        long want = ((Number) MODEL[call.which].invoke(model, call.arguments)).longValue();
        Due.is("run " + run + ": " + nameOf(call), answer(x, call, ~want), want);
    }

    private static long answer(BuildCache x, Call call, long ifThrown) throws Exception {
        try {
            return ((Number) REAL[call.which].invoke(x, call.arguments)).longValue();
        } catch (InvocationTargetException thrown) {
            System.out.println(nameOf(call) + " threw " + thrown.getCause());
            return ifThrown;
        }
    }

    private static int index(String name) {
        for (int i = 0; i < CALL.length; i++) if (CALL[i].equals(name)) return i;
        return -1;
    }

    /** All that can be asked, of objects with these calls behind them: as many as it takes, each asked for the rest of its calls. */
    private static void compareAll(int run, List<Call> calls, Model model) throws Exception {
        BuildCache x = null;
        int room = 0;
        for (Call ask : allAsks(model)) {
            if (room == 0) {
                x = new BuildCache();
                for (Call call : calls) answer(x, call, 0);
                room = CALLS - calls.size();
            }
            compare(run, ask, x, model);
            room--;
        }
    }

    private static List<Call> allAsks(Model model) {
        List<Call> asks = new ArrayList<>();
        for (int space = 0; space < 2; space++) {
            for (int p = 0; p < model.count(0); p++) {
                ask(asks, "length", space, p);
                for (int i = 0; i < model.length(space, p); i++) ask(asks, "byteAt", space, p, i);
            }
            for (int a = 0; a < model.count(1); a++) ask(asks, "changed", space, a);
        }
        for (int what = 0; what < 11; what++) ask(asks, "count", what);
        for (int i = 0; i <= model.count(3); i++) {
            for (int what = 0; what < 5; what++) ask(asks, "entry", i, what);
        }
        for (int i = 0; i <= model.count(6); i++) {
            for (int what = 0; what < 4; what++) ask(asks, "done", i, what);
        }
        return asks;
    }

    private static void ask(List<Call> asks, String name, Object... arguments) {
        asks.add(new Call(index(name), arguments));
    }

    private static int wild(Random random) {
        int[] wild = {-1, -2, 27, 60, 64, 256, 4001, Integer.MAX_VALUE, Integer.MIN_VALUE, 1 << 16};
        return wild[random.nextInt(wild.length)];
    }

    /** Below most, as a rule; now and then the bound itself, or far out. */
    private static int below(Random random, int most) {
        int luck = random.nextInt(40);
        if (luck == 0) return wild(random);
        if (luck == 1) return most;
        return most <= 0 ? 0 : random.nextInt(most);
    }

    private static int lately(Random random, int most) {
        if (most < 4 || random.nextInt(3) > 0) return below(random, most);
        return most - 1 - random.nextInt(3);
    }

    private static int anyDirectory(Random random, Model model) {
        for (int tries = 0; tries < 6; tries++) {
            int p = below(random, model.count(0));
            if (model.of(p, 2) == 1) return p;
        }
        return below(random, model.count(0));
    }

    private static int stepNumber(Random random) {
        int[] often = {0, 0, 0, 0, 1, 1, 2, 3, 3, 3, 3, 9, 13, 13, 13, 13};
        return random.nextInt(3) == 0 ? below(random, 14) : often[random.nextInt(often.length)];
    }

    private static int stepValue(Random random) {
        int luck = random.nextInt(12);
        return luck == 0 ? below(random, 256) : luck < 4 ? random.nextInt(3) : 0;
    }

    private static Object[] argumentsOf(int which, Random random, Model model) {
        int space = below(random, 2);
        int paths = model.count(0);
        int action = lately(random, model.count(1));
        switch (CALL[which]) {
            case "path": return new Object[] {anyDirectory(random, model), 1 + below(random, 26), random.nextInt(5) == 0};
            case "of": return new Object[] {below(random, paths), below(random, 4)};
            case "feed": return new Object[] {random.nextInt(3) == 0 ? random.nextLong() : 97L + random.nextInt(3),
                random.nextInt(2) == 0 ? below(random, 9) : 1};
            case "write": case "remove": case "length": return new Object[] {space, below(random, paths)};
            case "copy": case "isClean": return new Object[] {space};
            case "byteAt": return new Object[] {space, below(random, paths), random.nextInt(4) == 0 ? below(random, 64) : below(random, 4)};
            case "action": case "forget": case "clear": return new Object[0];
            case "input": case "output": return new Object[] {action, below(random, paths)};
            case "step": return new Object[] {action, stepNumber(random), stepValue(random)};
            case "erase": return new Object[] {action};
            case "about": return new Object[] {action, below(random, 4)};
            case "uses": return new Object[] {action, below(random, model.count(1))};
            case "build": return new Object[] {space, random.nextInt(3) > 0 ? -1 : below(random, paths)};
            case "done": return new Object[] {below(random, model.count(6)), below(random, 4)};
            case "changed": case "key": return new Object[] {space, action};
            case "capacity": return new Object[] {random.nextInt(2) == 0 ? below(random, 4001) : below(random, 200)};
            case "entry": return new Object[] {below(random, model.count(3)), below(random, 5)};
            default: return new Object[] {below(random, 11)};
        }
    }
}
