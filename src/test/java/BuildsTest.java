/** Promises 17 to 21: BUILDS, what they tell, CHANGED, THE KEY's SIGN, and whether all is clean. */
public final class BuildsTest {
    private static final int NONE = BuildCache.NONE, BAD = BuildCache.BAD;

    public static void main(String[] args) {
        order();
        longChain();
        needed();
        refusals();
        foundByAnother();
        outcomeByNumber();
        done();
        doneTellsWhy();
        changed();
        changedParts();
        changedByHead();
        sourceInPlaceOfMade();
        key();
        keyOfDirectory();
        longestKey();
        isClean();
        isCleanChangesNothing();
        Due.end("BuildsTest");
    }

    private static BuildCache withFiles(int many) {
        BuildCache x = new BuildCache();
        for (int name = 1; name <= many; name++) x.path(0, name, false);
        return x;
    }

    /** An ACTION that READS a FILE and WRITES it with a byte behind it. */
    private static int copying(BuildCache x, int from, int to, int mark) {
        int a = x.action();
        copyingAnew(x, a, from, to, mark);
        return a;
    }

    private static void copyingAnew(BuildCache x, int a, int from, int to, int mark) {
        x.input(a, from);
        x.output(a, to);
        x.step(a, 0, 0);
        x.step(a, 1, mark);
        x.step(a, 3, 0);
    }

    private static void doneInOrder(BuildCache x, int... actions) {
        Due.is("count(6)", x.count(6), actions.length);
        for (int i = 0; i < actions.length; i++) Due.is("done(" + i + ", 0)", x.done(i, 0), actions[i]);
        Due.is("done behind the last", x.done(actions.length, 0), BAD);
    }

    private static void order() {
        BuildCache x = withFiles(10);
        copying(x, 4, 1, '0');
        copying(x, 9, 2, '1');
        copying(x, 9, 4, '2');
        copying(x, 9, 5, '3');
        copying(x, 1, 6, '4');
        Due.write(x, 0, 9, "s");
        Due.is("build", x.build(0, NONE), 5);
        doneInOrder(x, 1, 2, 0, 3, 4);
        Due.holds(x, 0, 6, "s204");
        Due.is("build again", x.build(0, NONE), 0);
        doneInOrder(x, 1, 2, 0, 3, 4);
    }

    /** 40 ACTIONS, each of which USES the next one; in an object that holds the 60 PATHS. */
    private static void longChain() {
        BuildCache x = new BuildCache();
        x.path(0, 1, true);
        x.path(0, 2, true);
        for (int p = 3; p < 60; p++) x.path(p < 29 ? 1 : p < 55 ? 2 : 0, p < 29 ? p - 2 : p < 55 ? p - 28 : p - 50, false);
        for (int a = 0; a < 40; a++) copying(x, a + 4, a + 3, '.');
        x.capacity(4000);
        Due.write(x, 1, 43, "s");
        Due.is("clean is what is built", x.isClean(1), 0);
        Due.is("the first needs all", x.build(1, 3), 40);
        for (int i = 0; i < 40; i++) Due.is("done(" + i + ", 0)", x.done(i, 0), 39 - i);
        Due.holds(x, 1, 3, "s" + Due.times(".", 40));
        Due.is("clean", x.isClean(1), 1);
        Due.is("the last would come to itself", x.input(39, 3), BuildCache.CIRCLE);
        Due.is("the first would come to itself", x.output(0, 43), BuildCache.CIRCLE);
        x.erase(0);
        copyingAnew(x, 0, 4, 3, '!');
        Due.is("the first alone is not clean", x.isClean(1), 0);
        Due.is("the others are found", x.build(1, 3), 1);
        Due.is("clean", x.isClean(1), 1);
    }

    private static void needed() {
        BuildCache x = new BuildCache();
        x.path(0, 1, true);
        x.path(1, 1, true);
        x.path(1, 2, false);
        x.path(2, 1, false);
        for (int name = 2; name <= 6; name++) x.path(0, name, false);
        copying(x, 5, 3, '0');
        copying(x, 3, 4, '1');
        copying(x, 5, 6, '2');
        copying(x, 6, 7, '3');
        Due.write(x, 0, 5, "s");
        Due.is("of a file", x.build(0, 3), 1);
        doneInOrder(x, 0);
        Due.is("of a file and what it needs", x.build(0, 4), 1);
        doneInOrder(x, 0, 1);
        Due.is("of a dir", x.build(0, 1), 0);
        doneInOrder(x, 0);
        Due.is("of the root", x.build(0, 0), 2);
        doneInOrder(x, 2, 3);
        Due.is("of a source", x.build(0, 5), 0);
        doneInOrder(x);
        Due.is("builds", x.count(10), 5);
        int lister = x.action();
        x.input(lister, 2);
        x.output(lister, 8);
        x.build(0, 8);
        doneInOrder(x, 0, 1, lister);
        x.action();
        x.build(0, NONE);
        doneInOrder(x, 0, 1, 2, 3, lister, lister + 1);
    }

    private static void refusals() {
        BuildCache x = withFiles(3);
        copying(x, 1, 2, 'x');
        x.build(0, NONE);
        Due.is("build space 2", x.build(2, NONE), BAD);
        Due.is("build space -1", x.build(-1, NONE), BAD);
        Due.is("build no path", x.build(0, 4), BAD);
        Due.is("build path -2", x.build(0, -2), BAD);
        Due.is("builds", x.count(10), 1);
        doneInOrder(x, 0);
        Due.is("done i -1", x.done(-1, 0), BAD);
        Due.is("done what 4", x.done(0, 4), BAD);
        Due.is("done what -1", x.done(0, -1), BAD);
        Due.is("changed space 2", x.changed(2, 0), BAD);
        Due.is("changed space -1", x.changed(-1, 0), BAD);
        Due.is("changed no action", x.changed(0, 1), BAD);
        Due.is("changed action -1", x.changed(0, -1), BAD);
        Due.is("key space 2", x.key(2, 0), 0);
        Due.is("key space -1", x.key(-1, 0), 0);
        Due.is("key no action", x.key(0, 1), 0);
        Due.is("key action -1", x.key(0, -1), 0);
        Due.is("isClean space 2", x.isClean(2), BAD);
        Due.is("isClean space -1", x.isClean(-1), BAD);
    }

    private static void foundByAnother() {
        BuildCache x = withFiles(6);
        copying(x, 1, 2, 'x');
        copying(x, 3, 4, 'x');
        Due.write(x, 0, 1, "same");
        Due.write(x, 0, 3, "same");
        Due.write(x, 1, 3, "same");
        Due.is("one is run, the other found", x.build(0, NONE), 1);
        Due.is("run", x.done(0, 1), 1);
        Due.is("found", x.done(1, 1), 0);
        Due.holds(x, 0, 2, "samex");
        Due.holds(x, 0, 4, "samex");
        Due.is("in another space", x.build(1, 4), 0);
        Due.holds(x, 1, 4, "samex");
        Due.holds(x, 1, 2, null);
        Due.is("entries", x.count(3), 1);
        Due.is("found twice", x.entry(0, 3), 2);
        x.output(1, 5);
        Due.is("with an output more it is another key", x.build(0, 4), 1);
    }

    private static void outcomeByNumber() {
        BuildCache x = withFiles(6);
        for (int a = 0; a < 2; a++) {
            x.action();
            x.output(a, 3 - 2 * a + 1);
            x.output(a, 3 - 2 * a);
            x.output(a, 5 + a);
            x.step(a, 1, 'p');
            x.step(a, 3, 0);
            x.step(a, 1, 'q');
            x.step(a, 3, 1);
        }
        Due.is("runs", x.build(0, NONE), 1);
        Due.holds(x, 0, 4, "p");
        Due.holds(x, 0, 3, "q");
        Due.holds(x, 0, 2, "p");
        Due.holds(x, 0, 1, "q");
        Due.holds(x, 0, 6, null);
        Due.is("failure when found", x.done(1, 2), 0);
    }

    private static void done() {
        BuildCache x = withFiles(5);
        copying(x, 1, 2, 'x');
        copying(x, 1, 3, 'y');
        Due.write(x, 0, 1, "s");
        x.step(1, 11, 0);
        x.build(0, 3);
        x.build(0, NONE);
        Due.is("run", x.done(0, 1), 1);
        Due.is("no failure", x.done(0, 2), 0);
        Due.is("never done", x.done(0, 3), -1);
        Due.is("found", x.done(1, 1), 0);
        Due.is("a failure is found", x.done(1, 2), 5);
        Due.is("nothing changed", x.done(1, 3), 0);
        Due.is("run in all", x.count(7), 2);
        Due.is("found in all", x.count(8), 1);
    }

    private static void doneTellsWhy() {
        BuildCache x = withFiles(5);
        copying(x, 1, 2, 'x');
        copying(x, 2, 3, 'y');
        Due.write(x, 0, 1, "s");
        x.build(0, NONE);
        Due.write(x, 0, 1, "t");
        Due.is("not yet", x.changed(0, 1), 0);
        x.build(0, NONE);
        Due.is("its input", x.done(0, 3), 10);
        Due.is("its input, as it is when it is done", x.done(1, 3), 10);
        x.step(0, 4, 0);
        x.build(0, NONE);
        Due.is("its steps", x.done(0, 3), 1);
        Due.is("what it reads is the same", x.done(1, 3), 0);
        Due.is("so it is found", x.done(1, 1), 0);
    }

    private static void changed() {
        BuildCache x = withFiles(5);
        copying(x, 1, 2, 'x');
        x.input(0, 3);
        Due.is("never done", x.changed(0, 0), -1);
        Due.write(x, 0, 1, "s");
        Due.is("never done", x.changed(0, 0), -1);
        x.build(0, NONE);
        Due.is("nothing", x.changed(0, 0), 0);
        Due.is("never done there", x.changed(1, 0), -1);
        Due.write(x, 0, 3, "");
        Due.is("empty is not absent", x.changed(0, 0), 11);
        Due.write(x, 0, 1, "t");
        Due.is("the first one", x.changed(0, 0), 10);
        Due.write(x, 0, 1, "s");
        Due.is("the first one is as it was", x.changed(0, 0), 11);
        x.remove(0, 3);
        Due.is("all is as it was", x.changed(0, 0), 0);
        x.forget();
        Due.is("forget does not matter", x.changed(0, 0), 0);
        Due.is("it is run all the same", x.build(0, NONE), 1);
        Due.write(x, 0, 1, "t");
        x.build(0, NONE);
        Due.write(x, 0, 1, "s");
        Due.is("found counts as done", x.build(0, NONE), 0);
        Due.is("latest time", x.changed(0, 0), 0);
        Due.write(x, 0, 1, "t");
        Due.is("latest time", x.changed(0, 0), 10);
    }

    private static void changedParts() {
        BuildCache x = withFiles(9);
        x.action();
        for (int p = 1; p <= 6; p++) x.input(0, p);
        Due.write(x, 0, 1, "a");
        Due.write(x, 0, 2, "bc");
        x.build(0, NONE);
        Due.write(x, 0, 6, "z");
        Due.is("the last one", x.changed(0, 0), 15);
        Due.write(x, 0, 2, "bcd");
        Due.is("longer", x.changed(0, 0), 11);
        Due.write(x, 0, 2, "b");
        Due.is("shorter", x.changed(0, 0), 11);
        Due.write(x, 0, 2, "bd");
        Due.is("as long", x.changed(0, 0), 11);
        x.remove(0, 1);
        Due.is("absent", x.changed(0, 0), 10);
    }

    private static void changedByHead() {
        BuildCache x = withFiles(9);
        copying(x, 1, 2, 'x');
        Due.write(x, 0, 1, "s");
        x.build(0, NONE);
        x.output(0, 3);
        Due.is("an output more", x.changed(0, 0), 1);
        x.build(0, NONE);
        Due.is("done", x.changed(0, 0), 0);
        x.input(0, 4);
        Due.is("an input more", x.changed(0, 0), 1);
        x.build(0, NONE);
        x.step(0, 5, 0);
        Due.is("a step more", x.changed(0, 0), 1);
        Due.write(x, 0, 1, "t");
        Due.is("the head goes ahead", x.changed(0, 0), 1);
        x.erase(0);
        Due.is("erased", x.changed(0, 0), 1);
        x.build(0, NONE);
        Due.is("done with nothing", x.changed(0, 0), 0);
        x.step(0, 0, 0);
        x.build(0, NONE);
        x.erase(0);
        x.step(0, 0, 1);
        Due.is("another v", x.changed(0, 0), 1);
        x.erase(0);
        x.step(0, 1, 0);
        Due.is("another number", x.changed(0, 0), 1);
        x.erase(0);
        x.step(0, 0, 0);
        Due.is("the same again", x.changed(0, 0), 0);
    }

    private static void sourceInPlaceOfMade() {
        BuildCache x = withFiles(9);
        copying(x, 1, 2, 'x');
        Due.write(x, 0, 1, "s");
        Due.write(x, 0, 5, "s");
        x.build(0, NONE);
        x.erase(0);
        x.input(0, 5);
        x.output(0, 6);
        x.step(0, 0, 0);
        x.step(0, 1, 'x');
        x.step(0, 3, 0);
        Due.is("the path itself does not matter", x.changed(0, 0), 0);
        Due.is("so it is found", x.build(0, NONE), 0);
        Due.holds(x, 0, 6, "sx");
    }

    private static long sign(long... numbers) {
        long h = 1469598103934665603L;
        for (long number : numbers) {
            h ^= number;
            h *= 1099511628211L;
        }
        return h;
    }

    private static void key() {
        BuildCache x = withFiles(4);
        x.action();
        Due.is("of nothing", x.key(0, 0), sign(0, 0, 0));
        x.output(0, 3);
        x.step(0, 1, 255);
        x.step(0, 3, 0);
        Due.is("without inputs", x.key(0, 0), sign(1, 2, 1, 255, 3, 0, 0));
        x.input(0, 1);
        x.input(0, 2);
        Due.is("absent", x.key(0, 0), sign(1, 2, 1, 255, 3, 0, 2, -1, -1));
        Due.write(x, 0, 2, "\u00ffa");
        Due.write(x, 1, 1, "");
        Due.is("bytes", x.key(0, 0), sign(1, 2, 1, 255, 3, 0, 2, -1, 2, 255, 97));
        Due.is("empty", x.key(1, 0), sign(1, 2, 1, 255, 3, 0, 2, 0, -1));
        x.build(0, NONE);
        Due.is("entry", x.entry(0, 0), sign(1, 2, 1, 255, 3, 0, 2, -1, 2, 255, 97));
    }

    private static void keyOfDirectory() {
        BuildCache x = new BuildCache();
        x.path(0, 9, true);
        x.path(1, 20, false);
        x.path(1, 3, false);
        x.path(1, 4, true);
        x.path(4, 1, false);
        x.action();
        x.input(0, 1);
        Due.is("nothing listed", x.key(0, 0), sign(0, 0, 1, -2, 0));
        for (int p = 2; p <= 3; p++) Due.write(x, 0, p, "some");
        x.write(0, 5);
        Due.is("listed", x.key(0, 0), sign(0, 0, 1, -2, 2, 3, 20));
        Due.is("listed there", x.key(1, 0), sign(0, 0, 1, -2, 0));
        x.remove(0, 3);
        Due.is("listed", x.key(0, 0), sign(0, 0, 1, -2, 1, 20));
        x.build(0, NONE);
        Due.write(x, 0, 2, "others");
        Due.is("contents do not matter", x.changed(0, 0), 0);
        x.path(1, 5, false);
        Due.is("a new file does not matter", x.changed(0, 0), 0);
        x.write(0, 6);
        Due.is("that it is there does", x.changed(0, 0), 10);
    }

    private static void longestKey() {
        BuildCache x = withFiles(9);
        x.action();
        for (int p = 7; p <= 9; p++) x.output(0, p);
        for (int i = 0; i < 16; i++) x.step(0, 8, 255);
        long[] row = new long[425];
        row[0] = 3;
        row[1] = 16;
        for (int i = 0; i < 16; i++) {
            row[2 + 2 * i] = 8;
            row[3 + 2 * i] = 255;
        }
        row[34] = 6;
        for (int p = 1; p <= 6; p++) {
            x.input(0, p);
            Due.write(x, 0, p, Due.times("" + p, 64));
            row[35 + 65 * (p - 1)] = 64;
            for (int i = 1; i <= 64; i++) row[35 + 65 * (p - 1) + i] = '0' + p;
        }
        Due.is("the longest key", x.key(0, 0), sign(row));
        Due.is("run", x.build(0, NONE), 1);
        Due.is("nothing changed", x.changed(0, 0), 0);
        Due.is("found", x.build(0, NONE), 0);
        Due.write(x, 0, 6, Due.times("6", 63) + "7");
        Due.is("its last byte", x.changed(0, 0), 15);
        Due.is("run", x.build(0, NONE), 1);
        Due.write(x, 0, 6, Due.times("6", 64));
        Due.is("found", x.build(0, NONE), 0);
    }

    private static void isClean() {
        BuildCache x = withFiles(6);
        Due.is("nothing made", x.isClean(0), 1);
        copying(x, 1, 2, 'x');
        copying(x, 2, 3, 'y');
        Due.is("absent, as it would fail", x.isClean(0), 1);
        Due.write(x, 0, 1, "s");
        Due.is("not built", x.isClean(0), 0);
        Due.is("the other space", x.isClean(1), 1);
        x.build(0, 2);
        Due.is("half built", x.isClean(0), 0);
        x.build(0, NONE);
        Due.is("built", x.isClean(0), 1);
        Due.write(x, 0, 1, "t");
        Due.is("changed", x.isClean(0), 0);
        Due.write(x, 0, 1, "s");
        Due.is("as it was", x.isClean(0), 1);
        x.forget();
        Due.is("the cache does not matter", x.isClean(0), 1);
        x.step(1, 4, 0);
        Due.is("a step that changes nothing", x.isClean(0), 1);
        x.erase(1);
        copying(x, 2, 4, 'y');
        Due.is("another output", x.isClean(0), 0);
    }

    private static void isCleanChangesNothing() {
        BuildCache x = withFiles(6);
        copying(x, 1, 2, 'x');
        Due.write(x, 0, 1, "s");
        x.build(0, NONE);
        Due.write(x, 0, 1, "t");
        long sign = x.key(0, 0);
        for (int space = 0; space < 2; space++) Due.is("isClean", x.isClean(space), space);
        Due.holds(x, 0, 2, "sx");
        Due.holds(x, 0, 1, "t");
        Due.holds(x, 1, 1, null);
        Due.is("key", x.key(0, 0), sign);
        Due.is("changed", x.changed(0, 0), 10);
        Due.is("entries", x.count(3), 1);
        Due.is("run", x.count(7), 1);
        Due.is("builds", x.count(10), 1);
        Due.is("done", x.count(6), 1);
    }
}
