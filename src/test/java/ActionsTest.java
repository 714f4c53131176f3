/** Promises 10 to 16: ACTIONS, what they have, and which of them USE which. */
public final class ActionsTest {
    private static final int NONE = BuildCache.NONE, BAD = BuildCache.BAD, KIND = BuildCache.KIND;
    private static final int TWICE = BuildCache.TWICE, CIRCLE = BuildCache.CIRCLE, FULL = BuildCache.FULL;

    public static void main(String[] args) {
        action();
        input();
        inputCircles();
        output();
        outputCircles();
        step();
        erase();
        about();
        uses();
        Due.end("ActionsTest");
    }

    private static BuildCache withFiles(int many) {
        BuildCache x = new BuildCache();
        for (int name = 1; name <= many; name++) x.path(0, name, false);
        return x;
    }

    private static void action() {
        BuildCache x = new BuildCache();
        for (int a = 0; a < 40; a++) Due.is("action", x.action(), a);
        Due.is("the 41st action", x.action(), FULL);
        Due.is("count(1)", x.count(1), 40);
        for (int what = 0; what < 4; what++) Due.is("a new action", x.about(39, what), 0);
        Due.is("no action 40", x.about(40, 0), BAD);
    }

    private static void input() {
        BuildCache x = withFiles(8);
        x.action();
        Due.is("input no action", x.input(1, 1), BAD);
        Due.is("input action -1", x.input(-1, 1), BAD);
        Due.is("input no path", x.input(0, 9), BAD);
        Due.is("input NONE", x.input(0, NONE), BAD);
        Due.is("input root", x.input(0, 0), 1);
        Due.is("input root twice", x.input(0, 0), TWICE);
        for (int p = 1; p <= 5; p++) Due.is("input", x.input(0, p), p + 1);
        Due.is("input 7", x.input(0, 6), FULL);
        Due.is("TWICE ahead of FULL", x.input(0, 5), TWICE);
        Due.is("inputs", x.about(0, 0), 6);
        x.action();
        Due.is("an input of two", x.input(1, 5), 1);
    }

    private static void inputCircles() {
        BuildCache x = withFiles(10);
        for (int a = 0; a < 3; a++) {
            x.action();
            x.output(a, a + 1);
        }
        Due.is("own output", x.input(0, 1), CIRCLE);
        Due.is("own output in a dir", x.input(0, 0), CIRCLE);
        Due.is("1 uses 0", x.input(1, 1), 1);
        Due.is("2 uses 1", x.input(2, 2), 1);
        Due.is("0 would come to itself", x.input(0, 3), CIRCLE);
        Due.is("0 would come to itself", x.input(0, 2), CIRCLE);
        Due.is("2 uses 0 too", x.input(2, 1), 2);
        Due.is("refused inputs change nothing", x.about(0, 0), 0);
        for (int p = 5; p <= 10; p++) x.input(0, p);
        Due.is("CIRCLE ahead of FULL", x.input(0, 3), CIRCLE);
        x.erase(2);
        Due.is("FULL", x.input(0, 3), FULL);
        Due.is("no circle through an erased one", x.input(1, 3), 2);
    }

    private static void output() {
        BuildCache x = withFiles(6);
        x.path(0, 7, true);
        Due.write(x, 0, 1, "zero");
        Due.write(x, 1, 1, "one");
        x.action();
        x.action();
        Due.is("output no action", x.output(2, 1), BAD);
        Due.is("output action -1", x.output(-1, 1), BAD);
        Due.is("output no path", x.output(0, 8), BAD);
        Due.is("output NONE", x.output(0, NONE), BAD);
        Due.is("output dir", x.output(0, 7), KIND);
        Due.is("output root", x.output(0, 0), KIND);
        Due.is("output", x.output(0, 1), 1);
        Due.holds(x, 0, 1, null);
        Due.holds(x, 1, 1, null);
        Due.is("output twice", x.output(0, 1), TWICE);
        Due.is("output of another", x.output(1, 1), TWICE);
        Due.is("output 2", x.output(0, 2), 2);
        Due.is("output 3", x.output(0, 3), 3);
        Due.write(x, 0, 4, "stays");
        Due.is("output 4", x.output(0, 4), FULL);
        Due.holds(x, 0, 4, "stays");
        Due.is("KIND ahead of FULL", x.output(0, 7), KIND);
        Due.is("TWICE ahead of FULL", x.output(0, 3), TWICE);
        x.input(0, 5);
        Due.is("CIRCLE ahead of FULL", x.output(0, 5), CIRCLE);
        Due.is("outputs", x.about(0, 1), 3);
        x.input(1, 1);
        Due.is("TWICE ahead of CIRCLE", x.output(1, 1), TWICE);
    }

    private static void outputCircles() {
        BuildCache x = new BuildCache();
        x.path(0, 1, true);
        x.path(1, 1, false);
        x.path(1, 2, true);
        x.path(3, 1, false);
        x.path(0, 2, false);
        x.path(0, 3, false);
        x.action();
        x.action();
        x.input(0, 1);
        Due.is("in its own dir", x.output(0, 2), CIRCLE);
        Due.is("deeper is not in it", x.output(0, 4), 1);
        x.input(1, 4);
        Due.is("0 would use 1", x.output(1, 2), CIRCLE);
        Due.is("refused output is a source", x.of(2, 3), NONE);
        Due.is("elsewhere", x.output(1, 5), 1);
        x.action();
        x.input(2, 6);
        x.input(2, 5);
        Due.is("its own input", x.output(2, 6), CIRCLE);
        Due.is("2 comes to 0 by 1", x.output(2, 2), CIRCLE);
        x.erase(1);
        Due.is("nobody comes to 0", x.output(2, 2), 1);
    }

    private static void step() {
        BuildCache x = new BuildCache();
        x.action();
        Due.is("step no action", x.step(1, 0, 0), BAD);
        Due.is("step action -1", x.step(-1, 0, 0), BAD);
        Due.is("step number 14", x.step(0, 14, 0), BAD);
        Due.is("step number -1", x.step(0, -1, 0), BAD);
        Due.is("step v 256", x.step(0, 0, 256), BAD);
        Due.is("step v -1", x.step(0, 0, -1), BAD);
        for (int i = 0; i < 16; i++) Due.is("step", x.step(0, i % 14, i == 0 ? 255 : 0), i + 1);
        Due.is("step 17", x.step(0, 0, 0), FULL);
        Due.is("BAD ahead of FULL", x.step(0, 14, 0), BAD);
        Due.is("steps", x.about(0, 2), 16);
    }

    private static void erase() {
        BuildCache x = withFiles(4);
        x.action();
        x.action();
        x.input(0, 1);
        x.output(0, 2);
        x.output(0, 3);
        x.step(0, 1, 66);
        x.step(0, 3, 0);
        x.step(0, 3, 1);
        x.input(1, 2);
        x.build(0, NONE);
        x.build(1, NONE);
        Due.holds(x, 0, 2, "B");
        Due.is("erase no action", x.erase(2), BAD);
        Due.is("erase action -1", x.erase(-1), BAD);
        Due.is("erase", x.erase(0), 3);
        for (int what = 0; what < 4; what++) Due.is("about an erased one", x.about(0, what), 0);
        for (int space = 0; space < 2; space++) {
            Due.holds(x, space, 2, null);
            Due.holds(x, space, 3, null);
        }
        Due.is("a source again", x.of(2, 3), NONE);
        Due.is("1 uses nobody", x.about(1, 3), 0);
        Due.is("its number stays", x.count(1), 2);
        Due.is("erase again", x.erase(0), 0);
        Due.write(x, 0, 2, "mine");
        Due.is("output of another", x.output(1, 3), 1);
        Due.is("input again", x.input(0, 1), 1);
    }

    private static void about() {
        BuildCache x = withFiles(5);
        for (int a = 0; a < 3; a++) x.action();
        x.output(0, 1);
        x.output(0, 2);
        x.output(1, 3);
        x.input(2, 1);
        x.input(2, 2);
        x.input(2, 3);
        x.input(2, 4);
        x.step(2, 4, 0);
        Due.is("about inputs", x.about(2, 0), 4);
        Due.is("about outputs", x.about(0, 1), 2);
        Due.is("about steps", x.about(2, 2), 1);
        Due.is("about uses: each once", x.about(2, 3), 2);
        Due.is("about what 4", x.about(2, 4), BAD);
        Due.is("about what -1", x.about(2, -1), BAD);
        Due.is("about no action", x.about(3, 0), BAD);
        Due.is("about action -1", x.about(-1, 0), BAD);
    }

    private static void uses() {
        BuildCache x = new BuildCache();
        x.path(0, 1, true);
        x.path(1, 1, true);
        x.path(1, 2, false);
        x.path(2, 1, false);
        x.path(0, 2, false);
        for (int a = 0; a < 4; a++) x.action();
        x.output(0, 3);
        x.output(1, 4);
        x.input(2, 1);
        Due.is("by a dir", x.uses(2, 0), 1);
        Due.is("not deeper", x.uses(2, 1), 0);
        Due.is("not the other way", x.uses(0, 2), 0);
        Due.is("not itself", x.uses(2, 2), 0);
        x.output(2, 5);
        x.input(3, 5);
        Due.is("by a file", x.uses(3, 2), 1);
        Due.is("not through another", x.uses(3, 0), 0);
        x.input(0, 6);
        Due.is("a source is nobody's", x.about(0, 3), 0);
        x.path(0, 3, false);
        x.action();
        x.input(0, 6);
        Due.is("an output that is an input already", x.output(4, 6), 1);
        Due.is("uses it from then on", x.uses(0, 4), 1);
        Due.is("uses no a", x.uses(5, 0), BAD);
        Due.is("uses no b", x.uses(0, 5), BAD);
        Due.is("uses -1", x.uses(-1, 0), BAD);
        Due.is("uses b -1", x.uses(0, -1), BAD);
        Due.is("uses 64 is not 0", x.uses(2, 64), BAD);
    }
}
