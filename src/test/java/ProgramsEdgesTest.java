/** 'A PROGRAM' of the terms: each STEP and each failure at its bound, just below it and just above it. */
public final class ProgramsEdgesTest {
    // INPUTS: 0 a FILE, 1 an empty FILE, 2 an ABSENT FILE, 3 a DIRECTORY with NAMES 1 and 26 LISTED, NAME 2 ABSENT.
    private static final String BASE = """
        path 0 1 file; path 0 2 file; path 0 3 file; path 0 4 dir; path 4 26 file; path 4 2 file; path 4 1 file
        path 0 5 file; path 0 6 file
        put 0 1 'bca'; write 0 2; write 0 5; write 0 7
        action; input 0 1; input 0 2; input 0 3; input 0 4 = 4; output 0 8; output 0 9 = 2
        """;
    // 64 bytes that are 97.
    private static final String ROW_OF_64 = "1:97 13:0 13:0 13:0 13:0 13:0 13:0 ";

    public static void main(String[] args) {
        row();
        read();
        readLong();
        bytes();
        list();
        listLong();
        write();
        turn();
        sort();
        count();
        sum();
        cut();
        skip();
        skipOver();
        once();
        mix();
        twice();
        missing();
        index();
        kind();
        fail();
        firstFailure();
        outcome();
        Script.end("ProgramsEdgesTest");
    }

    /** The PROGRAM's last STEP WRITES THE ROW to OUTPUT 0. */
    private static void comesTo(String sentence, String steps, String content) {
        Script.edge(sentence,
            BASE, "steps 0 " + steps + " 3:0; build 0 NONE = 1; done 0 2 = 0; entry 0 2 = 0; holds 0 9 absent",
            "entry 0 1 = " + (16 + content.length()), "holds 0 8 '" + content + "'; isClean 0 = 1");
    }

    private static void comesTo(String sentence, String input, String steps, String content) {
        Script.edge(sentence,
            BASE, input, "steps 0 " + steps + " 3:0; build 0 NONE = 1; done 0 2 = 0; holds 0 8 '" + content + "'");
    }

    /** Whatever was written ahead of the failure, both OUTPUTS are ABSENT. */
    private static void fails(String sentence, String steps, int failure) {
        fails(sentence, "count 0 = 10", steps, failure);
    }

    private static void fails(String sentence, String input, String steps, int failure) {
        Script.edge(sentence,
            BASE, input, "steps 0 1:77 3:0 1:78 3:1; build 0 NONE = 1; holds 0 8 'M'; holds 0 9 'N'; steps 0 " + steps,
            "build 0 NONE = 1; done 0 2 = " + failure + "; entry 1 2 = " + failure + "; entry 1 1 = 16; entry 1 4 = 2; holds 0 8 absent",
            "holds 0 9 absent; isClean 0 = 1; build 0 NONE = 0; done 0 1 = 0; done 0 2 = " + failure + "; holds 0 8 absent");
    }

    private static void row() {
        comesTo("a ROW, empty at first", "", "");
        comesTo("a ROW, empty at first: shaped", "4:0 5:0 8:0 8:9 10:0 12:255 13:0", "");
        Script.edge("a ROW, empty at first: for each PROGRAM",
            BASE, "action; path 0 7 file = 10; output 1 10; steps 0 1:97 1:98; steps 1 3:0; build 0 NONE = 2; holds 0 10 ''",
            "isClean 0 = 1");
        Script.edge("a ROW, empty at first: behind a failure",
            BASE, "action; path 0 7 file = 10; output 1 10; steps 0 1:97 11:0; steps 1 3:0; build 0 NONE = 2; holds 0 10 ''",
            "isClean 0 = 1");
        comesTo("64 at most", ROW_OF_64, "a".repeat(64));
        comesTo("64 at most: through all that does not make it longer", ROW_OF_64 + "4:0 5:0 8:64 12:1 0:1", "`".repeat(64));
        comesTo("64 at most: again behind a WRITE", ROW_OF_64 + "3:0 " + "1:98 13:0 13:0 13:0 13:0 13:0 13:0", "b".repeat(64));
    }

    private static void read() {
        comesTo("READ: INPUT v (from 0)", "0:0", "bca");
        comesTo("READ comes behind the ROW", "1:120 0:0 1:121 0:0", "xbcaybca");
        comesTo("READ of an empty one", "1:120 0:1", "x");
        comesTo("READ: the bytes are without sign", "feed 0x80ff007f 4; write 0 1 = 4", "0:0", "\u0080\u00ff\0\u007f");
        Script.edge("READ: the sixth INPUT",
            BASE, "input 0 5 = 5; input 0 7 = 6; put 0 7 'six'; steps 0 0:5 3:0; build 0 NONE = 1; holds 0 8 'six'");
        Script.edge("READ of what was MADE",
            BASE, "action; path 0 7 file = 10; output 1 10; input 0 10 = 5; steps 1 1:109 3:0; steps 0 0:4 3:0; build 0 NONE = 2",
            "done 0 0 = 1; holds 0 8 'm'");
    }

    private static void readLong() {
        comesTo("READ: a ROW of 64", "fill 0 1 64 98", "0:0", "b".repeat(64));
        comesTo("READ: a ROW of 63 and 1", "fill 0 1 63 98", "1:97 0:0", "a" + "b".repeat(63));
        fails("2 LONG: READ of 64 behind 1", "fill 0 1 64 98", "1:97 0:0", 2);
        fails("2 LONG: READ of 1 behind 64", "fill 0 1 1 98", ROW_OF_64 + "0:0", 2);
        fails("2 LONG: READ of 64 behind 64", "fill 0 1 64 98", "0:0 0:0", 2);
        comesTo("READ of none behind 64", ROW_OF_64 + "0:1", "a".repeat(64));
    }

    private static void bytes() {
        comesTo("BYTE: v does, 0 .. 255", "1:0 1:255 1:127 1:128", "\0\u00ff\u007f\u0080");
        comesTo("BYTE: the 64th", "fill 0 1 63 98", "0:0 1:97", "b".repeat(63) + "a");
        fails("2 LONG: BYTE, the 65th", ROW_OF_64 + "1:97", 2);
        fails("2 LONG: BYTE, a 65th that is 0", ROW_OF_64 + "1:0", 2);
    }

    private static void list() {
        comesTo("LIST: 96 and each NAME that is LISTED, 1 .. 26", "2:3", "az");
        comesTo("LIST comes behind the ROW", "1:120 2:3 2:3", "xazaz");
        comesTo("LIST of a DIRECTORY in which none is LISTED", "remove 0 5; remove 0 7", "1:120 2:3", "x");
        comesTo("LIST: what is in it, in that SPACE", "write 1 6; remove 0 5", "2:3", "a");
        Script.edge("LIST of the ROOT",
            BASE, "action; path 0 7 file = 10; path 9 1 file ! KIND; path 4 3 dir = 11; path 11 4 file = 12; write 0 12",
            "output 1 12 = 1; input 1 0 = 1; steps 1 2:0 3:0; steps 0 3:0 3:1; build 0 NONE = 2; holds 0 12 'abef'");
    }

    private static void listLong() {
        comesTo("LIST: a ROW of 62 and 2", "fill 0 1 62 98", "0:0 2:3", "b".repeat(62) + "az");
        fails("2 LONG: LIST of 2 behind 63", "fill 0 1 63 98", "0:0 2:3", 2);
        fails("2 LONG: LIST of 2 behind 64", ROW_OF_64 + "2:3", 2);
        comesTo("LIST of none behind 64", "remove 0 5; remove 0 7", ROW_OF_64 + "2:3", "a".repeat(64));
        fails("2 LONG: LIST of 1 behind 64", "remove 0 5", ROW_OF_64 + "2:3", 2);
    }

    private static void write() {
        comesTo("WRITE: the ROW is empty then", "1:97 3:0 1:98", "b");
        comesTo("WRITE of nothing in place of an elder one", "1:97 3:0", "");
        comesTo("WRITE of a shorter one in place of a longer one", "0:0 3:0 1:120", "x");
        Script.edge("WRITE of nothing is a CONTENT, not ABSENT",
            BASE, "steps 0 3:1; build 0 NONE = 1; holds 0 9 ''; holds 0 8 absent; entry 0 1 = 16");
        Script.edge("WRITE: OUTPUT v, the last one",
            BASE, "path 0 7 file = 10; output 0 10 = 3; steps 0 1:97 3:2 1:98 3:1 1:99 3:0; build 0 NONE = 1; holds 0 8 'c'",
            "holds 0 9 'b'; holds 0 10 'a'; entry 0 1 = 19; entry 0 4 = 3");
        Script.edge("WRITE: OUTPUT v, one is not written",
            BASE, "steps 0 1:97 3:1 1:98; build 0 NONE = 1; done 0 2 = 0; holds 0 8 absent; holds 0 9 'a'");
        Script.edge("WRITE: 64 in each of three",
            BASE, "path 0 7 file = 10; output 0 10 = 3; fill 0 1 64 98; steps 0 0:0 3:0 0:0 3:1 0:0 3:2; build 0 NONE = 1",
            "length 0 8 = 64; length 0 9 = 64; length 0 10 = 64; byteAt 0 10 63 = 98; entry 0 1 = 208; count 4 = 208");
        Script.edge("as written last: an elder BUILD's goes",
            BASE, "steps 0 1:97 3:0; build 0 NONE = 1; holds 0 8 'a'; steps 0 3:0; build 0 NONE = 1; holds 0 8 ''; erase 0",
            "output 0 8; build 0 NONE = 1; holds 0 8 absent");
    }

    private static void turn() {
        comesTo("TURN of one", "1:97 4:0", "a");
        comesTo("TURN of two", "1:97 1:98 4:0", "ba");
        comesTo("TURN of three", "0:0 4:0", "acb");
        comesTo("TURN of 64", "fill 0 1 63 98", "0:0 1:97 4:0", "a" + "b".repeat(63));
        comesTo("TURN and TURN again", "0:0 4:255 4:0", "bca");
    }

    private static void sort() {
        comesTo("SORT of one", "1:97 5:0", "a");
        comesTo("SORT of two", "1:98 1:97 5:0", "ab");
        comesTo("SORT: all the other way round", "1:99 1:98 1:97 5:0", "abc");
        comesTo("SORT of like ones", "0:0 0:0 5:0", "aabbcc");
        comesTo("SORT by bytes without sign", "1:128 1:255 1:127 1:0 1:1 5:0", "\0\1\u007f\u0080\u00ff");
        comesTo("SORT of what is sorted", "1:97 1:98 1:99 5:0", "abc");
        comesTo("SORT of 64: the last is the least", "fill 0 1 63 98", "0:0 1:97 5:0", "a" + "b".repeat(63));
    }

    private static void count() {
        comesTo("COUNT of none", "6:0", "0");
        comesTo("COUNT of one", "1:0 6:0", "1");
        comesTo("COUNT of 9", "0:0 0:0 0:0 6:0", "9");
        comesTo("COUNT of 10", "0:0 0:0 0:0 1:0 6:0", "10");
        comesTo("COUNT of 63", "fill 0 1 63 98", "0:0 6:0", "63");
        comesTo("COUNT of 64", ROW_OF_64 + "6:0", "64");
        comesTo("COUNT of its figures", ROW_OF_64 + "6:0 6:0", "2");
    }

    private static void sum() {
        comesTo("SUM of none", "7:0", "0");
        comesTo("SUM of a 0", "1:0 7:0", "0");
        comesTo("SUM: 9", "1:9 7:0", "9");
        comesTo("SUM: 10", "1:9 1:1 7:0", "10");
        comesTo("SUM: 99", "1:99 7:0", "99");
        comesTo("SUM: 100", "1:99 1:1 7:0", "100");
        comesTo("SUM without sign: 128", "1:128 7:0", "128");
        comesTo("SUM without sign: 255", "1:255 7:0", "255");
        comesTo("SUM: 999", "1:255 1:255 1:255 1:234 7:0", "999");
        comesTo("SUM: 1000", "1:250 13:0 13:0 7:0", "1000");
        comesTo("SUM: 9999", "fill 0 1 39 250", "0:0 1:249 7:0", "9999");
        comesTo("SUM: 10000", "fill 0 1 40 250", "0:0 7:0", "10000");
        comesTo("SUM: the most, 16320", "fill 0 1 64 255", "0:0 7:0", "16320");
    }

    private static void cut() {
        comesTo("CUT to none", "0:0 8:0", "");
        comesTo("CUT to one", "0:0 8:1", "b");
        comesTo("CUT to one less", "0:0 8:2", "bc");
        comesTo("CUT to as many as there are", "0:0 8:3", "bca");
        comesTo("CUT to one more", "0:0 8:4", "bca");
        comesTo("CUT to 255", "0:0 8:255", "bca");
        comesTo("CUT of 64 to 63", ROW_OF_64 + "8:63 1:98", "a".repeat(63) + "b");
        comesTo("CUT of 64 to 64, 65", ROW_OF_64 + "8:64 8:65", "a".repeat(64));
    }

    private static void skip() {
        comesTo("SKIP: a FILE that is not ABSENT", "9:0 1:120 1:121", "y");
        comesTo("SKIP: an empty FILE is not ABSENT", "9:1 1:120 1:121", "y");
        comesTo("SKIP: an ABSENT FILE", "9:2 1:120 1:121", "xy");
        comesTo("SKIP in that SPACE alone", "write 1 3; remove 0 2", "9:1 1:120 9:2 1:121", "xy");
        fails("3 INDEX: SKIP by no INPUT", "9:4 1:120", 3);
        fails("4 KIND: SKIP of a DIRECTORY", "9:3 1:120", 4);
    }

    private static void skipOver() {
        comesTo("the next STEP alone is passed over", "9:0 1:119 1:120 1:121", "xy");
        comesTo("passed over: a SKIP does nothing then", "9:0 9:0 1:120", "x");
        comesTo("passed over: a SKIP that would FAIL", "9:0 9:3 1:120", "x");
        comesTo("passed over: FAIL", "9:0 11:0 1:120", "x");
        comesTo("passed over: a READ of an ABSENT one, of no INPUT, of a DIRECTORY", "9:0 0:2 9:0 0:9 9:0 0:3 1:120", "x");
        comesTo("passed over: what would be LONG", ROW_OF_64 + "9:0 13:0", "a".repeat(64));
        Script.edge("passed over: a WRITE", BASE, "steps 0 1:97 9:0 3:0 3:1; build 0 NONE = 1; holds 0 8 absent; holds 0 9 'a'");
        Script.edge("SKIP as the last STEP", BASE, "steps 0 1:97 3:0 9:0; build 0 NONE = 1; done 0 2 = 0; holds 0 8 'a'");
        Script.edge("SKIP as the 16th STEP",
            BASE, Script.range("step 0 1 #", 1, 14), "step 0 3 0 = 15; step 0 9 0 = 16; build 0 NONE = 1; done 0 2 = 0",
            "length 0 8 = 14; action; path 0 7 file = 10; output 1 10; steps 1 3:0; build 0 NONE = 1; holds 0 10 ''");
    }

    private static void once() {
        comesTo("ONCE of one", "1:97 10:0", "a");
        comesTo("ONCE: the first of each stays where it is", "0:0 1:97 0:0 1:100 1:98 10:0", "bcad");
        comesTo("ONCE of like ones", ROW_OF_64 + "10:0", "a");
        comesTo("ONCE: 0 and 255 are bytes, too", "1:0 1:255 1:0 1:255 10:0", "\0\u00ff");
        String others = "ABCDEFGHIJKLMNOPQRSTUVWXYZabcdefghijklmnopqrstuvwxyz0123456789+-";
        comesTo("ONCE of 64 others", "put 0 1 '" + others + "'", "0:0 10:0", others);
    }

    private static void mix() {
        comesTo("MIX with 0", "0:0 12:0", "bca");
        comesTo("MIX with 1", "0:0 12:1", "cb`");
        comesTo("MIX with 255", "1:0 1:255 1:1 12:255", "\u00ff\0\u00fe");
        comesTo("MIX with 128, twice", "0:0 12:128 12:128", "bca");
        comesTo("MIX of 64, the first and the last", "fill 0 1 64 97", "0:0 12:3", "b".repeat(64));
    }

    private static void twice() {
        comesTo("TWICE of one", "1:97 13:0", "aa");
        comesTo("TWICE in order", "0:0 13:0", "bcabca");
        comesTo("TWICE of 32", "fill 0 1 32 98", "0:0 13:0", "b".repeat(64));
        fails("2 LONG: TWICE of 33", "fill 0 1 33 98", "0:0 13:0", 2);
        fails("2 LONG: TWICE of 64", ROW_OF_64 + "13:0", 2);
        fails("2 LONG: cut too late", "fill 0 1 33 98", "0:0 13:0 8:1", 2);
    }

    private static void missing() {
        fails("1 MISSING: READ of one that is ABSENT", "0:2", 1);
        fails("1 MISSING: READ of one that was removed", "remove 0 1", "0:0", 1);
        fails("1 MISSING: behind a ROW of 64", ROW_OF_64 + "0:2", 1);
        Script.edge("1 MISSING: in that SPACE alone",
            BASE, "steps 0 0:0 3:0; build 0 NONE = 1; done 0 2 = 0; build 1 NONE = 1; done 0 2 = 1; length 1 8 = NONE");
        Script.edge("1 MISSING: of what another FAILS to make",
            BASE, "action; path 0 7 file = 10; output 1 10; input 0 10 = 5; steps 1 1:97 3:0 11:0; steps 0 0:4 3:0",
            "build 0 NONE = 2; done 0 2 = 5; done 1 2 = 1; length 0 10 = NONE");
    }

    private static void index() {
        fails("3 INDEX: READ of no INPUT, one too far", "0:4", 3);
        fails("3 INDEX: READ of no INPUT, 255", "0:255", 3);
        fails("3 INDEX: LIST of no INPUT, one too far", "2:4", 3);
        fails("3 INDEX: LIST of no INPUT, 255", "2:255", 3);
        fails("3 INDEX: SKIP of no INPUT, 255", "9:255", 3);
        fails("3 INDEX: WRITE of no OUTPUT, one too far", "3:2", 3);
        fails("3 INDEX: WRITE of no OUTPUT, 3", "3:3", 3);
        fails("3 INDEX: WRITE of no OUTPUT, 255", "3:255", 3);
        fails("3 INDEX: READ of no INPUT behind a ROW of 64", ROW_OF_64 + "0:4", 3);
        Script.edge("3 INDEX: no INPUT at all",
            "action; steps 0 0:0; build 0 NONE = 1; done 0 2 = 3; action; steps 1 2:0; build 0 NONE = 1; done 1 2 = 3; action",
            "steps 2 9:0; build 0 NONE = 1; done 2 2 = 3");
        Script.edge("3 INDEX: no OUTPUT at all", "action; steps 0 3:0; build 0 NONE = 1; done 0 2 = 3");
        Script.edge("3 INDEX: six INPUTS, three OUTPUTS",
            BASE, "path 0 7 file = 10; input 0 5; input 0 7 = 6; output 0 10 = 3; steps 0 0:5 3:2; build 0 NONE = 1; done 0 2 = 0",
            "step 0 0 6; build 0 NONE = 1; done 0 2 = 3; erase 0; output 0 8; output 0 9; output 0 10; steps 0 3:2 3:3",
            "build 0 NONE = 1; done 0 2 = 3");
        comesTo("v of another STEP is no INDEX", "1:97 4:255 5:255 10:255 13:255 8:255", "aa");
    }

    private static void kind() {
        fails("4 KIND: READ of a DIRECTORY", "0:3", 4);
        fails("4 KIND: LIST of a FILE", "2:0", 4);
        fails("4 KIND: LIST of an empty FILE", "2:1", 4);
        fails("4 KIND: LIST of an ABSENT FILE", "2:2", 4);
        fails("4 KIND: behind a ROW of 64", ROW_OF_64 + "0:3", 4);
    }

    private static void fail() {
        fails("5 FAIL", "11:0", 5);
        fails("5 FAIL, whatever v", "11:255", 5);
        Script.edge("5 FAIL as the 16th STEP",
            BASE, "steps 0 1:97 3:0", Script.range("step 0 1 #", 1, 13), "step 0 11 0 = 16; build 0 NONE = 1; done 0 2 = 5",
            "holds 0 8 absent");
    }

    private static void firstFailure() {
        fails("by the first of these that it meets: FAIL ahead of MISSING", "11:0 0:2", 5);
        fails("by the first of these that it meets: MISSING ahead of FAIL", "0:2 11:0", 1);
        fails("by the first of these that it meets: INDEX ahead of KIND", "0:4 0:3", 3);
        fails("by the first of these that it meets: KIND ahead of INDEX", "0:3 0:4", 4);
        fails("by the first of these that it meets: LONG ahead of MISSING", ROW_OF_64 + "1:97 0:2", 2);
        fails("by the first of these that it meets: MISSING ahead of LONG", ROW_OF_64 + "0:2 1:97", 1);
        fails("what is written behind a failure", "11:0 1:97 3:0 3:1", 5);
    }

    private static void outcome() {
        Script.edge("no STEPS: no failure, all ABSENT",
            BASE, "build 0 NONE = 1; done 0 2 = 0; holds 0 8 absent; holds 0 9 absent; entry 0 1 = 16; entry 0 4 = 2");
        Script.edge("all ABSENT with a failure, when it is FOUND, too",
            BASE, "steps 0 1:97 3:0 9:0 11:0; build 0 NONE = 1; holds 0 8 'a'; remove 0 1; build 0 NONE = 1; done 0 2 = 5",
            "holds 0 8 absent; put 0 1 'bca'; build 0 NONE = 0; holds 0 8 'a'; remove 0 1; build 0 NONE = 0; done 0 2 = 5",
            "holds 0 8 absent");
    }
}
