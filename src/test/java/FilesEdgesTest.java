/** Promises 1 to 9, and 'FILES' of the terms: each sentence that names a bound, at it, just below it and just above it. */
public final class FilesEdgesTest {
    private static final int LEAST = Integer.MIN_VALUE, MOST = Integer.MAX_VALUE;

    // FILE 1, DIRECTORY 2 with FILE 3 in it, and FILE 4, which ACTION 0 MAKES.
    private static final String TREE = """
        path 0 1 file = 1
        path 0 2 dir = 2
        path 2 1 file = 3
        path 0 3 file = 4
        action = 0
        output 0 4 = 1
        steps 0 1:77 3:0
        """;

    // A DIRECTORY 1 with 26 FILES, a DIRECTORY 28 with 26 FILES, and four FILES in the ROOT: 59 PATHS with the ROOT.
    private static final String FIFTY_NINE = "path 0 1 dir = 1\n" + Script.range("path 1 # file", 1, 26)
        + "path 0 2 dir = 28\n" + Script.range("path 28 # file", 1, 26) + Script.range("path 0 # file", 3, 6);

    public static void main(String[] args) {
        newObject();
        pathNumbers();
        pathNames();
        pathParents();
        pathOrder();
        of();
        feed();
        tapeFull();
        write();
        contents();
        remove();
        copy();
        length();
        byteAt();
        listed();
        Script.end("FilesEdgesTest");
    }

    private static void newObject() {
        Script.edge("The ROOT alone",
            "count 0 = 1; of 0 0 = NONE; of 0 1 = 0; of 0 2 = 1; of 0 3 = NONE; of 1 0 ! BAD",
            "build 0 0 = 0; build 0 1 ! BAD; path 0 1 file = 1");
        Script.edge("no ACTIONS",
            "count 1 = 0; about 0 0 ! BAD; changed 0 0 ! BAD; key 0 0 ~ 0; erase 0 ! BAD; uses 0 0 ! BAD; build 0 NONE = 0",
            "count 6 = 0", Script.each("isClean # ~ 1", 0, 1), "action = 0");
        Script.edge("an empty CACHE",
            "count 3 = 0; count 4 = 0; count 5 = 1000; entry 0 0 ~ LEAST; forget ~ 0; capacity 0 = 0; count 9 = 0");
        Script.edge("an empty TAPE", "count 2 = 0; path 0 1 file; write 0 1 = 0; holds 0 1 ''");
        Script.edge("nothing DONE, RUN, FOUND, EVICTED or built", Script.range("count # = 0", 6, 10), "done 0 0 ! BAD");
        Script.edge("two objects are no one object", "path 0 1 file = 1; feed 1 1 = 1; action = 0");
        Script.edge("two objects are no one object: the second", "path 0 1 file = 1; feed 1 1 = 1; action = 0");
    }

    private static void pathNumbers() {
        Script.edge("PATHS, 60 at most: the last but one is taken",
            FIFTY_NINE, "count 0 = 59; of 58 1 = 6; of 59 1 ! BAD; path 0 7 file = 59; of 59 1 = 7");
        Script.edge("PATHS, 60 at most: the 61st FILE is FULL",
            FIFTY_NINE, "path 0 7 file = 59; count 0 = 60; path 0 8 file ! FULL; count 0 = 60");
        Script.edge("PATHS, 60 at most: the 61st DIRECTORY is FULL",
            FIFTY_NINE, "path 0 7 dir = 59; path 59 1 dir ! FULL; of 60 0 ! BAD");
        Script.edge("numbered from 0 as they come",
            "path 0 9 file = 1; path 0 8 file = 2; path 0 7 dir = 3; path 3 9 file = 4; of 1 1 = 9; of 2 1 = 8; of 4 0 = 3");
        Script.edge("a refused PATH takes no number",
            "path 0 27 file ! BAD; path 0 1 file = 1; path 0 1 dir ! TWICE; path 1 1 file ! KIND; path 0 2 file = 2");
    }

    private static void pathNames() {
        Script.edge("a NAME (1 .. 26): BAD",
            Script.each("path 0 # file ! BAD", LEAST, -1, 0, 27, 28, 257, MOST), Script.each("path 0 # dir ! BAD", 0, 27));
        Script.edge("a NAME (1 .. 26): taken",
            "path 0 1 file = 1; path 0 2 file = 2; path 0 25 dir = 3; path 0 26 dir = 4; of 1 1 = 1; of 4 1 = 26");
        Script.edge("all 26 NAMES in one PARENT",
            Script.range("path 0 # file = #", 1, 26), Script.range("path 0 # file ! TWICE", 1, 26), "path 0 27 file ! BAD");
        Script.edge("each NAME once in a PARENT",
            "path 0 5 file = 1; path 0 6 dir = 2; path 0 5 file ! TWICE; path 0 5 dir ! TWICE; path 0 6 file ! TWICE",
            "path 0 6 dir ! TWICE; path 0 4 file = 3; path 0 7 file = 4");
        Script.edge("once in a PARENT: in another one again",
            "path 0 5 dir = 1; path 1 5 dir = 2; path 2 5 file = 3; path 1 6 file = 4; path 0 6 file = 5; path 2 5 dir ! TWICE",
            "path 1 5 file ! TWICE");
    }

    private static void pathParents() {
        Script.edge("PARENT: BAD",
            "path 0 1 dir = 1", Script.each("path # 1 file ! BAD", LEAST, -2, -1, 2, 3, 60, 64, MOST), "path 1 1 file = 2");
        Script.edge("PARENT is a FILE: KIND",
            "path 0 1 file = 1; path 0 2 dir = 2; path 1 1 file ! KIND; path 1 1 dir ! KIND; path 2 1 file = 3",
            "path 3 1 file ! KIND");
        Script.edge("PARENT is a MADE FILE: KIND", TREE, "path 4 1 file ! KIND");
        Script.edge("A new DIRECTORY, FILE changes nothing else: of a DIRECTORY that is an INPUT",
            TREE, "input 0 2 = 1; put 0 3 'x'; build 0 NONE = 1; path 2 2 file = 5; path 2 3 dir = 6; path 6 1 file = 7",
            "changed 0 0 = 0; isClean 0 = 1; build 0 NONE = 0; length 0 5 = NONE; length 1 5 = NONE; of 5 3 = NONE");
        Script.edge("DIRECTORIES as deep as can be",
            "path 0 1 dir", Script.range("path # 1 dir", 1, 57), "path 58 1 file = 59; of 59 0 = 58; path 58 2 file ! FULL",
            "put 1 59 'deep'; holds 1 59 'deep'; action; input 0 58 = 1; build 1 0 = 0; build 1 58 = 0");
    }

    private static void pathOrder() {
        Script.edge("path, the first that fits: BAD ahead of KIND", "path 0 1 file = 1; path 1 0 file ! BAD; path 1 27 dir ! BAD");
        Script.edge("path, the first that fits: BAD, KIND, TWICE ahead of FULL",
            FIFTY_NINE, "path 0 7 file = 59; path 60 1 file ! BAD; path 0 27 file ! BAD; path 0 0 file ! BAD",
            "path 59 1 file ! KIND; path 0 7 file ! TWICE; path 0 1 dir ! TWICE; path 0 26 file ! FULL");
    }

    private static void of() {
        Script.edge("of: no such PATH",
            TREE, Script.each("of # 0 ! BAD", LEAST, -2, -1, 5, 60, MOST), Script.each("of 5 # ! BAD", 1, 2, 3));
        Script.edge("of: 0 .. 3",
            TREE, Script.each("of 4 # ! BAD", LEAST, -1, 4, 5, MOST), "of 4 0 ~ 0; of 4 1 ~ 3; of 4 2 ~ 0; of 4 3 ~ 0; of 2 2 ~ 1",
            "of 3 0 = 2");
        Script.edge("PARENT (NONE), NAME (0 of the ROOT)",
            "of 0 0 ~ NONE; of 0 1 ~ 0; of 0 2 ~ 1; of 0 3 ~ NONE; of 0 -1 ! BAD; of 0 4 ! BAD");
        Script.edge("the ACTION of which it is an OUTPUT (NONE)",
            TREE, "of 1 3 = NONE; of 2 3 = NONE; of 4 3 = 0; action = 1; output 1 3 = 1; of 3 3 = 1; of 2 3 = NONE; erase 1 = 0",
            "of 3 3 = NONE; erase 0 = 2; of 4 3 = NONE; output 1 4 = 1; of 4 3 = 1");
        Script.edge("the ACTION of which it is an OUTPUT: the 40th",
            "path 0 1 file", Script.range("action = #", 0, 39), "output 39 1 = 1; of 1 3 = 39");
    }

    private static void feed() {
        Script.edge("n (1 .. 8): BAD",
            "feed 1 1 = 1", Script.each("feed 1 # ! BAD", LEAST, -8, -1, 0, 9, 10, 64, MOST), "count 2 = 1");
        Script.edge("The n lowest bytes of w: one",
            "path 0 1 file; feed 0x1122334455667788 1 = 1; write 0 1 = 1; holds 0 1 '\u0088'");
        Script.edge("The n lowest bytes of w: two",
            "path 0 1 file; feed 0x1122334455667788 2 = 2; write 0 1 = 2; holds 0 1 'w\u0088'");
        Script.edge("The n lowest bytes of w: seven",
            "path 0 1 file; feed 0x1122334455667788 7 = 7; write 0 1 = 7; holds 0 1 '\42\63DUfw\u0088'");
        Script.edge("The n lowest bytes of w: eight",
            "path 0 1 file; feed 0x8122334455667780 8 = 8; write 0 1 = 8; holds 0 1 '\u0081\42\63DUfw\u0080'");
        Script.edge("bytes without sign",
            "path 0 1 file; feed -1 8 = 8; feed 0 8 = 16; feed LEAST 8 = 24; write 0 1 = 24",
            "holds 0 1 '" + "\u00ff".repeat(8) + "\0".repeat(8) + "\u0080" + "\0".repeat(7) + "'");
        Script.edge("come behind THE TAPE",
            "path 0 1 file; feed 0x61 1 = 1; feed 0x6263 2 = 3; feed 0x646566 3 = 6; write 0 1 = 6; holds 0 1 'abcdef'");
    }

    private static void tapeFull() {
        String to56 = Script.range("feed # 8", 1, 7);
        Script.edge("FULL: 64, with eight", to56, "count 2 = 56; feed 1 8 = 64; feed 1 8 ! FULL; feed 1 1 ! FULL; count 2 = 64");
        Script.edge("FULL: 64, seven of eight have room", to56, "feed 1 1 = 57; feed 1 8 ! FULL; feed 1 7 = 64; feed 1 1 ! FULL");
        Script.edge("FULL: 64, one has room", to56, "feed 1 7 = 63", Script.each("feed 1 # ! FULL", 2, 3, 7, 8), "feed 1 1 = 64");
        Script.edge("BAD ahead of FULL", to56, "feed 1 8 = 64", Script.each("feed 1 # ! BAD", LEAST, -1, 0, 9, MOST));
        Script.edge("a TAPE that is FULL is a CONTENT, and empty then",
            to56, "feed 0x61 8 = 64; path 0 1 file; write 0 1 = 64; length 0 1 = 64; byteAt 0 1 63 = 97; byteAt 0 1 7 = 1",
            "count 2 = 0; feed 1 8 = 8");
    }

    private static void write() {
        Script.edge("write: BAD",
            TREE, "feed 0x6162 2 = 2", Script.each("write # 1 ! BAD", LEAST, -1, 2, 3, MOST),
            Script.each("write 0 # ! BAD", LEAST, -2, -1, 5, 60, MOST), "count 2 = 2");
        Script.edge("write: KIND of a DIRECTORY, the ROOT and a MADE FILE",
            TREE, "feed 0x6162 2 = 2; write 0 2 ! KIND; write 1 0 ! KIND; write 0 4 ! KIND; write 1 4 ! KIND; build 0 NONE = 1",
            "write 0 4 ! KIND; holds 0 4 'M'; write 0 3 = 2");
        Script.edge("write: BAD ahead of KIND", TREE, "write 2 0 ! BAD; write -1 2 ! BAD; write 2 4 ! BAD");
        Script.edge("in a SPACE: the other one is as it was",
            TREE, "put 0 1 'zero'; put 1 1 'one'; holds 0 1 'zero'; holds 1 1 'one'; holds 0 3 absent");
        Script.edge("how many bytes: none", TREE, "write 1 1 = 0; holds 1 1 ''; holds 0 1 absent");
        Script.edge("and is empty then",
            TREE, "put 0 1 'ab'; count 2 = 0; write 0 3 = 0; put 0 3 'c'; holds 0 3 'c'; holds 0 1 'ab'");
        Script.edge("a shorter one in place of a longer one",
            TREE, "put 0 1 'long one'; put 0 1 's'; holds 0 1 's'", Script.each("byteAt 0 1 # = BAD", 1, 2, 7),
            "put 0 1 'longer one'; holds 0 1 'longer one'");
        Script.edge("what was MADE is a SOURCE again",
            TREE, "build 0 NONE; erase 0 = 2; put 0 4 'mine'; holds 0 4 'mine'; holds 1 4 absent");
    }

    private static void contents() {
        Script.edge("a CONTENT of 0 .. 64 bytes: 63",
            TREE, "fill 1 1 63 255; length 1 1 = 63; byteAt 1 1 62 = 255; byteAt 1 1 63 = BAD");
        Script.edge("a CONTENT of 0 .. 64 bytes: 64",
            TREE, "fill 1 1 64 0; length 1 1 = 64; byteAt 1 1 63 = 0; byteAt 1 1 64 = BAD; remove 1 1 = 64");
        Script.edge("ABSENT (at first)",
            TREE, Script.each("length # 1 = NONE", 0, 1), Script.each("length # 3 = NONE", 0, 1),
            Script.each("length # 4 = NONE", 0, 1), "remove 0 1 ! NONE");
        Script.edge("60 FILES and DIRECTORIES, of one CONTENT each",
            FIFTY_NINE, "path 0 7 file; fill 0 59 64 7; put 1 59 'other'; put 0 54 'last but one'; holds 1 59 'other'",
            "holds 0 54 'last but one'; length 0 59 = 64; byteAt 0 59 63 = 7; length 0 58 = NONE");
    }

    private static void remove() {
        Script.edge("remove: BAD",
            TREE, "put 0 1 'x'", Script.each("remove # 1 ! BAD", LEAST, -1, 2, MOST),
            Script.each("remove 0 # ! BAD", LEAST, -1, 5, MOST));
        Script.edge("remove: KIND",
            TREE, "build 0 NONE; remove 0 0 ! KIND; remove 0 2 ! KIND; remove 0 4 ! KIND; remove 1 4 ! KIND");
        Script.edge("remove: BAD ahead of KIND", TREE, "remove 2 2 ! BAD; remove -1 4 ! BAD");
        Script.edge("NONE: it was so",
            TREE, "remove 0 1 ! NONE; put 0 1 'x'; remove 0 1 = 1; remove 0 1 ! NONE; remove 1 1 ! NONE");
        Script.edge("how many bytes it had: none is not NONE",
            TREE, "write 0 1 = 0; remove 0 1 = 0; holds 0 1 absent; remove 0 1 ! NONE");
        Script.edge("in one SPACE alone", TREE, "put 0 1 'x'; put 1 1 'yz'; remove 1 1 = 2; holds 0 1 'x'; holds 1 1 absent");
        Script.edge("THE TAPE stays", TREE, "put 0 1 'x'; feed 0x6162 2 = 2; remove 0 1 = 1; write 0 1 = 2; holds 0 1 'ab'");
    }

    private static void copy() {
        Script.edge("copy: BAD", TREE, "put 0 1 'x'", Script.each("copy # ! BAD", LEAST, -2, -1, 2, 3, MOST));
        Script.edge("copy of nothing", "copy 0 ~ 0; copy 1 ~ 0");
        Script.edge("copy where all is the same",
            TREE, "put 0 1 'same'; put 1 1 'same'; write 0 3; write 1 3; copy 0 ~ 0; copy 1 ~ 0");
        Script.edge("become what they are in the other one: ABSENT", TREE, "put 0 1 'x'; copy 0 = 1; holds 0 1 absent; copy 0 ~ 0");
        Script.edge("become what they are in the other one: empty",
            TREE, "write 0 1 = 0; copy 1 = 1; holds 1 1 ''; holds 0 1 ''; remove 1 1 = 0; copy 0 = 1; holds 0 1 absent");
        Script.edge("how many are others than before: by the last byte, by length",
            TREE, "fill 0 1 64 5; fill 1 1 64 5; put 0 3 'abc'; put 1 3 'ab'; copy 1 = 1; holds 1 3 'abc'",
            "put 1 1 '" + "\5".repeat(63) + "\6'", "copy 0 = 1; byteAt 0 1 63 = 6; byteAt 0 1 62 = 5; length 1 3 = 3");
        Script.edge("SOURCES alone: what is MADE stays in both",
            TREE, "build 0 NONE = 1; copy 1 ~ 0; holds 1 4 absent; copy 0 ~ 0; holds 0 4 'M'");
        Script.edge("SOURCES alone: what was MADE goes along", TREE, "erase 0 = 2; put 0 4 'src'; copy 1 = 1; holds 1 4 'src'");
        Script.edge("all SOURCES, deeper ones, too",
            FIFTY_NINE, Script.range("write 0 #", 2, 27), Script.range("write 0 #", 29, 58), "copy 1 = 56; length 1 2 = 0",
            "length 1 58 = 0; copy 1 ~ 0; copy 0 ~ 0");
        Script.edge("THE TAPE stays behind a copy",
            TREE, "put 0 1 'x'; feed 0x6162 2 = 2; copy 1 = 1; count 2 = 2; write 1 3 = 2; holds 1 3 'ab'");
        Script.edge("a copy is no tie", TREE, "put 0 1 'x'; copy 1 = 1; put 0 1 'y'; holds 1 1 'x'");
    }

    private static void length() {
        Script.edge("length: BAD",
            TREE, Script.each("length # 1 ! BAD", LEAST, -1, 2, MOST), Script.each("length 1 # ! BAD", LEAST, -1, 5, MOST));
        Script.edge("length: KIND", TREE, "length 0 0 ! KIND; length 1 2 ! KIND; length 2 2 ! BAD; length -1 0 ! BAD");
        Script.edge("NONE: it is ABSENT",
            TREE, "length 0 1 ~ NONE; write 0 1 = 0; length 0 1 ~ 0; put 0 1 'a'; length 0 1 ~ 1; remove 0 1 = 1",
            "length 0 1 ~ NONE; length 0 4 ~ NONE; build 0 NONE; length 0 4 ~ 1");
    }

    private static void byteAt() {
        Script.edge("byteAt: BAD",
            TREE, "put 1 1 'ab'", Script.each("byteAt # 1 0 ! BAD", LEAST, -1, 2, MOST),
            Script.each("byteAt 1 # 0 ! BAD", LEAST, -1, 5, MOST));
        Script.edge("BAD: also where there is none",
            TREE, "put 1 1 'ab'; byteAt 1 1 0 ~ 97; byteAt 1 1 1 ~ 98",
            Script.each("byteAt 1 1 # ! BAD", LEAST, -64, -2, -1, 2, 3, 63, 64, 65, MOST));
        Script.edge("BAD: also where there is none, of an ABSENT one",
            TREE, Script.each("byteAt 0 1 # ! BAD", LEAST, -1, 0, 1, MOST), "byteAt 0 4 0 ! BAD");
        Script.edge("BAD: also where there is none, of an empty one",
            TREE, "write 0 1 = 0", Script.each("byteAt 0 1 # ! BAD", -1, 0, 1));
        Script.edge("BAD: also where there is none, any more",
            TREE, "put 0 1 'abc'; remove 0 1 = 3; byteAt 0 1 0 ! BAD; put 0 1 'z'; byteAt 0 1 0 ~ 122; byteAt 0 1 1 ! BAD");
        Script.edge("byteAt: KIND",
            TREE, "byteAt 0 0 0 ! KIND; byteAt 1 2 0 ! KIND; byteAt 1 2 64 ! KIND; byteAt 2 2 0 ! BAD; byteAt -1 0 0 ! BAD");
        Script.edge("0 .. 255",
            TREE, "feed 0x007f80ff 4 = 4; write 0 1 = 4; byteAt 0 1 0 ~ 0; byteAt 0 1 1 ~ 127; byteAt 0 1 2 ~ 128",
            "byteAt 0 1 3 ~ 255");
    }

    private static void listed() {
        String lister = TREE + "action = 1\npath 0 26 file = 5\ninput 1 2\noutput 1 5\nsteps 1 2:0 3:0\n";
        Script.edge("LISTED are not ABSENT ones: none", lister, "build 0 5 = 1; done 0 2 = 0; holds 0 5 ''");
        Script.edge("LISTED are not ABSENT ones: an empty one is",
            lister, "write 0 3 = 0; build 0 5 = 1; holds 0 5 'a'; build 1 5 = 1; holds 1 5 ''");
        Script.edge("LISTED are the FILES in it (not deeper), no DIRECTORIES",
            lister, "path 2 2 dir = 6; path 6 3 file = 7; write 0 7 = 0; write 0 1 = 0; build 0 5 = 1; holds 0 5 ''");
        Script.edge("rising, whatever came first",
            lister, "path 2 26 file = 6; path 2 2 file = 7; path 2 25 file = 8; write 0 6; write 0 8; write 0 3; write 0 7",
            "build 0 5 = 1; holds 0 5 'abyz'");
        Script.edge("all 26 NAMES are LISTED",
            lister, Script.range("path 2 # file", 2, 26), "write 0 3", Script.range("write 0 #", 6, 30), "build 0 5 = 1",
            "holds 0 5 'abcdefghijklmnopqrstuvwxyz'");
        Script.edge("a MADE FILE is LISTED, once it is DONE",
            lister, "path 2 9 file = 6; action = 2; output 2 6 = 1; build 0 5 = 2; holds 0 5 ''; steps 2 3:0; build 0 5 = 2",
            "holds 0 6 ''; holds 0 5 'i'");
    }
}
