/** Promises 1 to 9: a new object, PATHS, THE TAPE and the CONTENTS of SOURCES. */
public final class FilesTest {
    private static final int NONE = BuildCache.NONE, BAD = BuildCache.BAD, KIND = BuildCache.KIND;
    private static final int TWICE = BuildCache.TWICE, FULL = BuildCache.FULL;

    public static void main(String[] args) {
        constants();
        newObject();
        paths();
        pathsFull();
        of();
        feed();
        write();
        remove();
        copy();
        lengthAndBytes();
        Due.end("FilesTest");
    }

    private static void constants() {
        Due.is("NONE", BuildCache.NONE, -1);
        Due.is("BAD", BuildCache.BAD, -2);
        Due.is("KIND", BuildCache.KIND, -3);
        Due.is("TWICE", BuildCache.TWICE, -4);
        Due.is("CIRCLE", BuildCache.CIRCLE, -5);
        Due.is("FULL", BuildCache.FULL, -6);
    }

    private static void newObject() {
        BuildCache x = new BuildCache();
        long[] first = {1, 0, 0, 0, 0, 1000, 0, 0, 0, 0, 0};
        for (int what = 0; what < first.length; what++) Due.is("new count(" + what + ")", x.count(what), first[what]);
        Due.is("new entry", x.entry(0, 0), Long.MIN_VALUE);
        Due.is("new root", x.of(0, 2), 1);
        Due.is("new done", x.done(0, 0), BAD);
    }

    private static void paths() {
        BuildCache x = new BuildCache();
        Due.is("path dir", x.path(0, 26, true), 1);
        Due.is("path file", x.path(0, 1, false), 2);
        Due.is("path in dir", x.path(1, 1, false), 3);
        Due.is("path no parent", x.path(4, 1, false), BAD);
        Due.is("path parent -1", x.path(-1, 1, false), BAD);
        Due.is("path parent least", x.path(Integer.MIN_VALUE, 1, false), BAD);
        Due.is("path name 0", x.path(0, 0, false), BAD);
        Due.is("path name 27", x.path(0, 27, false), BAD);
        Due.is("path name -1", x.path(0, -1, false), BAD);
        Due.is("path BAD ahead of KIND", x.path(2, 27, false), BAD);
        Due.is("path in a file", x.path(2, 1, false), KIND);
        Due.is("path twice", x.path(0, 26, false), TWICE);
        Due.is("path twice, a dir", x.path(0, 1, true), TWICE);
        Due.is("refused paths change nothing", x.count(0), 4);
        Due.is("new file absent", x.length(0, 3), NONE);
        Due.is("new file absent", x.length(1, 3), NONE);
        Due.is("new file source", x.of(3, 3), NONE);
    }

    private static void pathsFull() {
        BuildCache x = new BuildCache();
        for (int name = 1; name <= 26; name++) Due.is("path", x.path(0, name, name < 3), name);
        for (int name = 1; name <= 26; name++) Due.is("path", x.path(1, name, false), 26 + name);
        for (int name = 1; name <= 6; name++) Due.is("path", x.path(2, name, false), 52 + name);
        Due.is("the 60th path", x.path(2, 7, false), 59);
        Due.is("the 61st path", x.path(2, 8, false), FULL);
        Due.is("TWICE ahead of FULL", x.path(2, 7, false), TWICE);
        Due.is("KIND ahead of FULL", x.path(3, 7, false), KIND);
        Due.is("count(0)", x.count(0), 60);
        Due.is("last", x.of(59, 1), 7);
        Due.is("none behind the last", x.of(60, 1), BAD);
    }

    private static void of() {
        BuildCache x = new BuildCache();
        x.path(0, 7, true);
        x.path(1, 9, false);
        x.action();
        x.action();
        x.output(1, 2);
        Due.is("of parent of root", x.of(0, 0), NONE);
        Due.is("of name of root", x.of(0, 1), 0);
        Due.is("of dir", x.of(1, 2), 1);
        Due.is("of file", x.of(2, 2), 0);
        Due.is("of parent", x.of(2, 0), 1);
        Due.is("of name", x.of(2, 1), 9);
        Due.is("of maker", x.of(2, 3), 1);
        Due.is("of maker of dir", x.of(1, 3), NONE);
        Due.is("of what 4", x.of(2, 4), BAD);
        Due.is("of what -1", x.of(2, -1), BAD);
        Due.is("of no path", x.of(3, 0), BAD);
        Due.is("of path -1", x.of(-1, 0), BAD);
    }

    private static void feed() {
        BuildCache x = new BuildCache();
        x.path(0, 1, false);
        Due.is("feed 3 of 8", x.feed(0x1122334455667788L, 3), 3);
        Due.is("feed -1", x.feed(-1L, 1), 4);
        Due.is("feed n 0", x.feed(1, 0), BAD);
        Due.is("feed n 9", x.feed(1, 9), BAD);
        Due.is("feed n -1", x.feed(1, -1), BAD);
        Due.is("feed 8", x.feed(0x8000000000000001L, 8), 12);
        Due.is("write", x.write(0, 1), 12);
        int[] bytes = {0x66, 0x77, 0x88, 0xff, 0x80, 0, 0, 0, 0, 0, 0, 1};
        for (int i = 0; i < bytes.length; i++) Due.is("fed byte " + i, x.byteAt(0, 1, i), bytes[i]);
        for (int i = 1; i < 8; i++) x.feed(0, 8);
        Due.is("feed to 63", x.feed(0, 7), 63);
        Due.is("feed over 64", x.feed(0, 2), FULL);
        Due.is("BAD ahead of FULL", x.feed(0, 9), BAD);
        Due.is("nothing changed", x.count(2), 63);
        Due.is("feed to 64", x.feed(5, 1), 64);
        Due.is("feed to 65", x.feed(5, 1), FULL);
        Due.is("write 64", x.write(1, 1), 64);
        Due.is("last byte", x.byteAt(1, 1, 63), 5);
        Due.is("tape empty", x.count(2), 0);
    }

    private static void write() {
        BuildCache x = new BuildCache();
        x.path(0, 1, false);
        x.path(0, 2, true);
        x.path(0, 3, false);
        x.action();
        x.output(0, 3);
        Due.feed(x, "abc");
        Due.is("write space 2", x.write(2, 1), BAD);
        Due.is("write space -1", x.write(-1, 1), BAD);
        Due.is("write no path", x.write(0, 4), BAD);
        Due.is("write path -1", x.write(0, -1), BAD);
        Due.is("write dir", x.write(0, 2), KIND);
        Due.is("write root", x.write(0, 0), KIND);
        Due.is("write made", x.write(0, 3), KIND);
        Due.is("write BAD ahead of KIND", x.write(2, 2), BAD);
        Due.is("tape stays when refused", x.count(2), 3);
        Due.is("write", x.write(0, 1), 3);
        Due.holds(x, 0, 1, "abc");
        Due.holds(x, 1, 1, null);
        Due.is("write nothing", x.write(0, 1), 0);
        Due.holds(x, 0, 1, "");
        Due.write(x, 0, 1, "de");
        Due.holds(x, 0, 1, "de");
    }

    private static void remove() {
        BuildCache x = new BuildCache();
        x.path(0, 1, false);
        x.path(0, 2, true);
        x.path(0, 3, false);
        x.action();
        x.output(0, 3);
        Due.write(x, 0, 1, "four");
        x.copy(1);
        Due.is("remove space 2", x.remove(2, 1), BAD);
        Due.is("remove space -1", x.remove(-1, 1), BAD);
        Due.is("remove no path", x.remove(0, 4), BAD);
        Due.is("remove dir", x.remove(0, 2), KIND);
        Due.is("remove made", x.remove(0, 3), KIND);
        Due.is("remove", x.remove(0, 1), 4);
        Due.is("remove absent", x.remove(0, 1), NONE);
        Due.holds(x, 0, 1, null);
        Due.holds(x, 1, 1, "four");
        x.write(0, 1);
        Due.is("remove empty", x.remove(0, 1), 0);
    }

    private static void copy() {
        BuildCache x = new BuildCache();
        for (int name = 1; name <= 5; name++) x.path(0, name, false);
        Due.write(x, 0, 1, "same");
        Due.write(x, 1, 1, "same");
        Due.write(x, 0, 2, "only in 0");
        Due.write(x, 1, 3, "only in 1");
        Due.write(x, 0, 4, "");
        x.action();
        x.output(0, 5);
        x.step(0, 1, 65);
        x.step(0, 3, 0);
        x.build(0, 5);
        Due.is("copy space 2", x.copy(2), BAD);
        Due.is("copy space -1", x.copy(-1), BAD);
        Due.is("copy into 1", x.copy(1), 3);
        Due.holds(x, 1, 1, "same");
        Due.holds(x, 1, 2, "only in 0");
        Due.holds(x, 1, 3, null);
        Due.holds(x, 1, 4, "");
        Due.holds(x, 1, 5, null);
        Due.holds(x, 0, 5, "A");
        Due.is("copy again", x.copy(1), 0);
        Due.is("copy back", x.copy(0), 0);
        Due.write(x, 0, 2, "longer than ever");
        Due.write(x, 0, 2, "only in 0");
        Due.is("what stood there before does not matter", x.copy(1), 0);
        Due.write(x, 0, 1, "samf");
        Due.is("copy one byte", x.copy(1), 1);
        Due.holds(x, 1, 1, "samf");
    }

    private static void lengthAndBytes() {
        BuildCache x = new BuildCache();
        x.path(0, 1, false);
        x.path(0, 2, true);
        Due.write(x, 1, 1, "az");
        Due.is("length", x.length(1, 1), 2);
        Due.is("length absent", x.length(0, 1), NONE);
        Due.is("length dir", x.length(0, 2), KIND);
        Due.is("length space 2", x.length(2, 1), BAD);
        Due.is("length space -1", x.length(-1, 1), BAD);
        Due.is("length no path", x.length(0, 3), BAD);
        Due.is("length path -1", x.length(0, -1), BAD);
        Due.is("byteAt 0", x.byteAt(1, 1, 0), 'a');
        Due.is("byteAt 1", x.byteAt(1, 1, 1), 'z');
        Due.is("byteAt 2", x.byteAt(1, 1, 2), BAD);
        Due.is("byteAt -1", x.byteAt(1, 1, -1), BAD);
        Due.is("byteAt most", x.byteAt(1, 1, Integer.MAX_VALUE), BAD);
        Due.is("byteAt absent", x.byteAt(0, 1, 0), BAD);
        Due.is("byteAt dir", x.byteAt(0, 2, 0), KIND);
        Due.is("byteAt space 2", x.byteAt(2, 2, 0), BAD);
        Due.is("byteAt no path", x.byteAt(0, 3, 0), BAD);
        Due.write(x, 1, 1, "\u00ff\u0080");
        Due.holds(x, 1, 1, "\u00ff\u0080");
        Due.is("a byte that is gone", x.byteAt(1, 1, 2), BAD);
    }
}
