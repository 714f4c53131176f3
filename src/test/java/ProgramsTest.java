/** Terms: what each STEP of a PROGRAM does to THE ROW, and how a PROGRAM FAILS. */
public final class ProgramsTest {
    private static final int NONE = BuildCache.NONE;
    private static final int A = 1, B = 2, DIR = 3, ABSENT = 4, IN_DIR = 5, OUT = 7, OUT2 = 8;

    public static void main(String[] args) {
        shaping();
        reading();
        listing();
        writing();
        figures();
        skipping();
        lengths();
        failures();
        order();
        Due.end("ProgramsTest");
    }

    /** INPUTS 0 "bca", 1 "\u00ff\u0001", 2 a DIRECTORY, 3 an ABSENT FILE; OUTPUTS 0 and 1. */
    private static BuildCache running(int... steps) {
        BuildCache x = new BuildCache();
        x.path(0, 1, false);
        x.path(0, 2, false);
        x.path(0, 3, true);
        x.path(0, 4, false);
        x.path(DIR, 26, false);
        x.path(DIR, 1, false);
        x.path(0, 5, false);
        x.path(0, 6, false);
        Due.write(x, 0, A, "bca");
        Due.write(x, 0, B, "\u00ff\u0001");
        x.action();
        for (int p = A; p <= ABSENT; p++) x.input(0, p);
        x.output(0, OUT);
        x.output(0, OUT2);
        for (int i = 0; i + 1 < steps.length; i += 2) x.step(0, steps[i], steps[i + 1]);
        return x;
    }

    private static void comesTo(String what, String content, int... steps) {
        BuildCache x = running(steps);
        Due.is(what + ": runs", x.build(0, NONE), 1);
        Due.is(what + ": failure", x.done(0, 2), 0);
        Due.holds(x, 0, OUT, content);
    }

    private static void fails(String what, int failure, int... steps) {
        BuildCache x = running(steps);
        Due.is(what + ": runs", x.build(0, NONE), 1);
        Due.is(what + ": failure", x.done(0, 2), failure);
        Due.is(what + ": entry's failure", x.entry(0, 2), failure);
        Due.is(what + ": entry's size", failure == 0 || x.entry(0, 1) == 16 ? 1 : 0, 1);
        if (failure != 0) Due.holds(x, 0, OUT, null);
        if (failure != 0) Due.holds(x, 0, OUT2, null);
    }

    private static void shaping() {
        comesTo("byte", "\u0000\u00ff", 1, 0, 1, 255, 3, 0);
        comesTo("turn", "acb", 0, 0, 4, 0, 3, 0);
        comesTo("turn of even length", "ba", 1, 97, 1, 98, 4, 9, 3, 0);
        comesTo("sort", "abc", 0, 0, 5, 0, 3, 0);
        comesTo("sort without sign", "\u0001a\u00ff", 0, 1, 1, 97, 5, 0, 3, 0);
        comesTo("cut", "bc", 0, 0, 8, 2, 3, 0);
        comesTo("cut to nothing", "", 0, 0, 8, 0, 3, 0);
        comesTo("cut of a shorter one", "bca", 0, 0, 8, 255, 3, 0);
        comesTo("once", "bcad", 0, 0, 0, 0, 1, 'd', 1, 'c', 10, 0, 3, 0);
        comesTo("mix", "BCA", 0, 0, 12, 32, 3, 0);
        comesTo("mix with 255", "\u0000\u00fe", 0, 1, 12, 255, 3, 0);
        comesTo("twice", "bcabca", 0, 0, 13, 0, 3, 0);
        comesTo("shapes of nothing", "", 4, 0, 5, 0, 8, 3, 10, 0, 12, 7, 13, 0, 3, 0);
    }

    private static void reading() {
        comesTo("read behind", "xbca\u00ff\u0001", 1, 'x', 0, 0, 0, 1, 3, 0);
        comesTo("read the same again", "bcabca", 0, 0, 0, 0, 3, 0);
        BuildCache x = running(0, 0, 3, 0);
        Due.write(x, 0, A, "");
        x.build(0, NONE);
        Due.is("an empty one is not MISSING", x.done(0, 2), 0);
        Due.holds(x, 0, OUT, "");
    }

    private static void listing() {
        comesTo("list of nothing", "", 2, 2, 3, 0);
        BuildCache x = running(2, 2, 3, 0);
        Due.write(x, 0, IN_DIR, "z");
        x.write(0, IN_DIR + 1);
        x.build(0, NONE);
        Due.holds(x, 0, OUT, "az");
        x.remove(0, IN_DIR + 1);
        x.build(0, NONE);
        Due.holds(x, 0, OUT, "z");
        x.path(DIR, 5, true);
        x.path(9, 6, false);
        x.write(0, 10);
        Due.is("not deeper, no dirs", x.build(0, NONE), 0);
    }

    private static void writing() {
        comesTo("not written", null, 0, 0);
        comesTo("written last", "2", 0, 0, 3, 0, 1, '2', 3, 0);
        comesTo("empty behind a write", "", 0, 0, 3, 1, 3, 0);
        BuildCache x = running(1, '0', 3, 0, 1, '1', 3, 1, 1, '2');
        x.build(0, NONE);
        Due.holds(x, 0, OUT, "0");
        Due.holds(x, 0, OUT2, "1");
        Due.is("size", x.entry(0, 1), 18);
        Due.is("outputs", x.entry(0, 4), 2);
    }

    private static void figures() {
        comesTo("count 0", "0", 6, 0, 3, 0);
        comesTo("count 3", "3", 0, 0, 6, 0, 3, 0);
        comesTo("count 12", "12", 0, 0, 13, 0, 13, 0, 6, 0, 3, 0);
        comesTo("sum 0", "0", 7, 0, 3, 0);
        comesTo("sum 256", "256", 0, 1, 7, 0, 3, 0);
        comesTo("sum 100", "100", 1, 100, 7, 0, 3, 0);
        comesTo("sum of figures", "145", 1, 100, 7, 0, 7, 0, 3, 0);
        comesTo("sum 16320", "16320", 1, 255, 13, 0, 13, 0, 13, 0, 13, 0, 13, 0, 13, 0, 7, 0, 3, 0);
        comesTo("count 64", "64", 1, 255, 13, 0, 13, 0, 13, 0, 13, 0, 13, 0, 13, 0, 6, 0, 3, 0);
    }

    private static void skipping() {
        comesTo("skip by a present one", "y", 9, 0, 1, 'x', 1, 'y', 3, 0);
        comesTo("skip by an absent one", "xy", 9, 3, 1, 'x', 1, 'y', 3, 0);
        comesTo("skip of a fail", "bca", 9, 0, 11, 0, 0, 0, 3, 0);
        comesTo("skip of a skip", "x", 9, 0, 9, 0, 1, 'x', 3, 0);
        comesTo("skip at the end", null, 9, 0);
        fails("skip of one step alone", 5, 9, 0, 1, 'x', 11, 0);
        fails("no skip by an absent one", 5, 9, 3, 11, 0);
        BuildCache x = running(3, 0, 9, 0);
        x.action();
        x.step(1, 11, 0);
        x.build(0, NONE);
        Due.is("a skip at the end is over with its program", x.done(1, 2), 5);
    }

    private static void lengths() {
        String row = Due.times("bca", 16);
        comesTo("48", row, 0, 0, 13, 0, 13, 0, 13, 0, 13, 0, 3, 0);
        fails("96 by twice", 2, 0, 0, 13, 0, 13, 0, 13, 0, 13, 0, 13, 0);
        comesTo("64 by twice", Due.times("a", 64), 1, 'a', 13, 0, 13, 0, 13, 0, 13, 0, 13, 0, 13, 0, 3, 0);
        fails("65 by byte", 2, 1, 'a', 13, 0, 13, 0, 13, 0, 13, 0, 13, 0, 13, 0, 1, 'a');
        fails("67 by read", 2, 1, 'a', 13, 0, 13, 0, 13, 0, 13, 0, 13, 0, 13, 0, 0, 0);
        comesTo("64 in every shape", Due.times("A", 64),
            1, 'a', 13, 0, 13, 0, 13, 0, 13, 0, 13, 0, 13, 0, 12, 32, 4, 0, 5, 0, 8, 64, 3, 0);
        comesTo("64 once", "A", 1, 'A', 13, 0, 13, 0, 13, 0, 13, 0, 13, 0, 13, 0, 10, 0, 3, 0);
        comesTo("list of nothing behind 64", Due.times("a", 64),
            1, 'a', 13, 0, 13, 0, 13, 0, 13, 0, 13, 0, 13, 0, 2, 2, 3, 0);
        BuildCache x = running(1, 'a', 13, 0, 13, 0, 13, 0, 13, 0, 13, 0, 13, 0, 2, 2);
        x.write(0, IN_DIR);
        x.build(0, NONE);
        Due.is("65 by list", x.done(0, 2), 2);
    }

    private static void failures() {
        fails("missing", 1, 0, 3);
        fails("no input 4", 3, 0, 4);
        fails("no input 255", 3, 0, 255);
        fails("no output 2", 3, 3, 2);
        fails("no output 255", 3, 3, 255);
        fails("list of no input", 3, 2, 4);
        fails("skip by no input", 3, 9, 4);
        fails("read of a dir", 4, 0, 2);
        fails("skip by a dir", 4, 9, 2);
        fails("list of a file", 4, 2, 0);
        fails("list of an absent file", 4, 2, 3);
        fails("fail", 5, 11, 0);
    }

    private static void order() {
        fails("the first failure tells", 5, 0, 0, 3, 0, 11, 0, 0, 3);
        fails("missing ahead of fail", 1, 0, 3, 11, 0);
        fails("written ones are absent, too", 1, 1, 'a', 3, 0, 1, 'b', 3, 1, 0, 3);
        BuildCache x = running(0, 0, 3, 0);
        x.build(0, NONE);
        Due.holds(x, 0, OUT, "bca");
        x.remove(0, A);
        x.build(0, NONE);
        Due.holds(x, 0, OUT, null);
    }
}
