/** Promises 22 to 26: THE CAPACITY, the row of ENTRIES, forget, count and clear. */
public final class CacheTest {
    private static final int NONE = BuildCache.NONE, BAD = BuildCache.BAD;
    private static final long NO_ENTRY = Long.MIN_VALUE;

    public static void main(String[] args) {
        capacity();
        tooMuchAlone();
        leastLatelyUsed();
        hundredEntries();
        entry();
        roomUsedAgain();
        twoKeysOfOneSign();
        forget();
        count();
        clear();
        clearThenAgain();
        Due.end("CacheTest");
    }

    /** One ACTION that copies FILE 1 to FILE 2. */
    private static BuildCache copying() {
        BuildCache x = new BuildCache();
        x.path(0, 1, false);
        x.path(0, 2, false);
        x.action();
        x.input(0, 1);
        x.output(0, 2);
        x.step(0, 0, 0);
        x.step(0, 3, 0);
        return x;
    }

    private static int builtWith(BuildCache x, String text) {
        Due.write(x, 0, 1, text);
        int runs = x.build(0, NONE);
        Due.holds(x, 0, 2, text);
        return runs;
    }

    private static void capacity() {
        BuildCache x = copying();
        Due.is("capacity -1", x.capacity(-1), BAD);
        Due.is("capacity 4001", x.capacity(4001), BAD);
        Due.is("first capacity", x.count(5), 1000);
        Due.is("capacity 4000", x.capacity(4000), 0);
        Due.is("count(5)", x.count(5), 4000);
        for (int i = 0; i < 4; i++) Due.is("run", builtWith(x, Due.times("abcd".substring(i, i + 1), i + 1)), 1);
        Due.is("sizes", x.count(4), 64 + 10);
        Due.is("just enough", x.capacity(74), 0);
        Due.is("one less", x.capacity(73), 1);
        Due.is("sizes", x.count(4), 57);
        Due.is("evicted", x.count(9), 1);
        Due.is("the eldest went", x.entry(0, 1), 18);
        Due.is("two go", x.capacity(20), 2);
        Due.is("evicted", x.count(9), 3);
        Due.is("the latest stays", x.entry(0, 1), 20);
        Due.is("capacity 0", x.capacity(0), 1);
        Due.is("entries", x.count(3), 0);
        Due.is("sizes", x.count(4), 0);
    }

    private static void tooMuchAlone() {
        BuildCache x = copying();
        x.capacity(40);
        builtWith(x, "a");
        builtWith(x, "b");
        Due.is("entries", x.count(3), 2);
        Due.is("run", builtWith(x, "cccccccccccccccccccccccccc"), 1);
        Due.is("all went, and the new one, too", x.count(3), 0);
        Due.is("evicted", x.count(9), 3);
        Due.is("sizes", x.count(4), 0);
        Due.is("run again", builtWith(x, "cccccccccccccccccccccccccc"), 1);
        Due.is("evicted", x.count(9), 4);
        Due.is("just as much as there is room", builtWith(x, "dddddddddddddddddddddddd"), 1);
        Due.is("stays", x.count(4), 40);
        Due.is("found", builtWith(x, "dddddddddddddddddddddddd"), 0);
    }

    private static void leastLatelyUsed() {
        BuildCache x = copying();
        x.capacity(3 * 17);
        builtWith(x, "a");
        builtWith(x, "b");
        builtWith(x, "c");
        long a = x.entry(0, 0);
        long b = x.entry(1, 0);
        Due.is("found", builtWith(x, "a"), 0);
        Due.is("a is the last", x.entry(2, 0), a);
        Due.is("b is the first", x.entry(0, 0), b);
        Due.is("found once", x.entry(2, 3), 1);
        Due.is("d runs", builtWith(x, "d"), 1);
        Due.is("b went", builtWith(x, "b"), 1);
        Due.is("a stays", builtWith(x, "a"), 0);
        Due.is("a found twice", x.entry(2, 3), 2);
        Due.is("b anew", x.entry(1, 3), 0);
        Due.is("evicted", x.count(9), 2);
    }

    private static void hundredEntries() {
        BuildCache x = new BuildCache();
        x.capacity(4000);
        x.path(0, 1, false);
        for (int a = 0; a < 40; a++) {
            x.action();
            x.input(a, 1);
            x.step(a, 1, a);
        }
        for (int round = 0; round < 2; round++) {
            x.feed(round, 1);
            x.write(0, 1);
            x.build(0, NONE);
        }
        Due.is("entries", x.count(3), 80);
        long first = x.entry(0, 0);
        long twentieth = x.entry(20, 0);
        x.feed(2, 1);
        x.write(0, 1);
        for (int a = 20; a < 40; a++) x.erase(a);
        for (int a = 21; a < 40; a++) x.step(a, 2, a);
        Due.is("40 more, all run", x.build(0, NONE), 40);
        Due.is("100 stay", x.count(3), 100);
        Due.is("evicted", x.count(9), 20);
        Due.is("the first ones went", x.entry(0, 0), twentieth);
        Due.is("none behind", x.entry(100, 0), NO_ENTRY);
        Due.is("the last one", x.entry(99, 0), x.key(0, 39));
        x.feed(0, 1);
        x.write(0, 1);
        Due.is("what went is run", first == x.key(0, 0) ? 1 : 0, 1);
        Due.is("20 are run again", x.build(0, NONE), 20);
        Due.is("sizes", x.count(4), 1600);
    }

    private static void entry() {
        BuildCache x = copying();
        x.output(0, 2);
        builtWith(x, "abc");
        x.remove(0, 1);
        x.build(0, NONE);
        Due.is("sign", x.entry(1, 0), x.key(0, 0));
        Due.is("size", x.entry(0, 1), 19);
        Due.is("size of a failure", x.entry(1, 1), 16);
        Due.is("no failure", x.entry(0, 2), 0);
        Due.is("failure", x.entry(1, 2), 1);
        Due.is("found", x.entry(1, 3), 0);
        Due.is("outputs", x.entry(1, 4), 1);
        Due.is("entry what 5", x.entry(0, 5), NO_ENTRY);
        Due.is("entry what -1", x.entry(0, -1), NO_ENTRY);
        Due.is("entry 2", x.entry(2, 0), NO_ENTRY);
        Due.is("entry -1", x.entry(-1, 0), NO_ENTRY);
    }

    /** What an ENTRY that went had held must not show in a later one. */
    private static void roomUsedAgain() {
        BuildCache x = copying();
        x.path(0, 3, false);
        x.output(0, 3);
        builtWith(x, "a");
        builtWith(x, "a");
        Due.is("found", x.entry(0, 3), 1);
        x.capacity(0);
        x.capacity(1000);
        x.erase(0);
        x.output(0, 2);
        Due.is("run", x.build(0, NONE), 1);
        Due.is("found never", x.entry(0, 3), 0);
        Due.is("wrote nothing", x.entry(0, 1), 16);
        Due.holds(x, 0, 2, null);
        x.forget();
        x.step(0, 11, 0);
        x.build(0, NONE);
        Due.is("fails", x.entry(0, 2), 5);
        x.forget();
        x.erase(0);
        x.build(0, NONE);
        Due.is("fails no more", x.entry(0, 2), 0);
        Due.is("no outputs", x.entry(0, 4), 0);
    }

    /** Two CONTENTS that were looked for so that the KEYS of the ACTION with them have one SIGN. */
    private static void twoKeysOfOneSign() {
        BuildCache x = copying();
        x.feed(0x4420823cfde6f1c2L, 8);
        x.feed(0x6b30f90e9bfcc740L, 8);
        x.write(0, 1);
        x.feed(0x41208424cea618f9L, 8);
        x.feed(0x691e610a8025d542L, 8);
        x.write(1, 1);
        Due.is("one sign", x.key(0, 0) == x.key(1, 0) ? 1 : 0, 1);
        Due.is("run", x.build(0, NONE), 1);
        Due.is("another key", x.build(1, NONE), 1);
        Due.is("its last byte", x.byteAt(1, 2, 15), 0x42);
        Due.is("two entries", x.count(3), 2);
        x.copy(1);
        Due.is("changed", x.changed(1, 0), 10);
        Due.is("found", x.build(1, NONE), 0);
        Due.is("the first was used", x.entry(1, 3), 1);
        Due.is("the other was not", x.entry(0, 3), 0);
    }

    private static void forget() {
        BuildCache x = copying();
        Due.is("forget nothing", x.forget(), 0);
        builtWith(x, "a");
        builtWith(x, "b");
        Due.is("forget", x.forget(), 2);
        Due.is("entries", x.count(3), 0);
        Due.is("sizes", x.count(4), 0);
        Due.is("not evicted", x.count(9), 0);
        Due.is("capacity stays", x.count(5), 1000);
        Due.is("run again", builtWith(x, "a"), 1);
        Due.is("found anew", x.entry(0, 3), 0);
        builtWith(x, "a");
        Due.is("found", x.entry(0, 3), 1);
    }

    private static void count() {
        BuildCache x = copying();
        builtWith(x, "a");
        builtWith(x, "bb");
        builtWith(x, "a");
        x.capacity(18);
        x.build(1, 2);
        x.build(1, 1);
        Due.feed(x, "tape");
        long[] due = {3, 1, 4, 1, 16, 18, 0, 3, 1, 2, 5};
        for (int what = 0; what < due.length; what++) Due.is("count(" + what + ")", x.count(what), due[what]);
        Due.is("count(11)", x.count(11), BAD);
        Due.is("count(-1)", x.count(-1), BAD);
    }

    private static void clear() {
        BuildCache x = copying();
        builtWith(x, "a");
        x.capacity(17);
        builtWith(x, "b");
        builtWith(x, "b");
        Due.feed(x, "tape");
        Due.is("clear", x.clear(), 1);
        long[] first = {1, 0, 0, 0, 0, 1000, 0, 0, 0, 0, 0};
        for (int what = 0; what < first.length; what++) Due.is("cleared count(" + what + ")", x.count(what), first[what]);
        Due.is("no done", x.done(0, 0), BAD);
        Due.is("no entry", x.entry(0, 0), NO_ENTRY);
        Due.is("no path", x.of(1, 0), BAD);
        Due.is("no action", x.about(0, 0), BAD);
        Due.is("root", x.of(0, 2), 1);
        Due.is("clear again", x.clear(), 1);
    }

    private static void clearThenAgain() {
        BuildCache x = copying();
        builtWith(x, "a");
        x.clear();
        x.path(0, 1, false);
        x.path(0, 2, false);
        Due.holds(x, 0, 1, null);
        Due.holds(x, 0, 2, null);
        Due.is("a source", x.of(2, 3), NONE);
        x.action();
        for (int what = 0; what < 4; what++) Due.is("about", x.about(0, what), 0);
        Due.is("never done", x.changed(0, 0), -1);
        x.input(0, 1);
        x.output(0, 2);
        x.step(0, 0, 0);
        x.step(0, 3, 0);
        Due.is("run", builtWith(x, "a"), 1);
        Due.is("not found before", x.entry(0, 3), 0);
    }
}
