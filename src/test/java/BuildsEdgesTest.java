import java.math.BigInteger;

/** Promises 17 to 21, and 'A BUILD', THE KEY and CHANGED of the terms: each sentence that names a bound, at it and beside it. */
public final class BuildsEdgesTest {
    private static final int LEAST = Integer.MIN_VALUE, MOST = Integer.MAX_VALUE;

    // ACTION 0 MAKES FILE 2 from FILE 1, ACTION 1 MAKES FILE 3 from FILE 2; FILES 4 and 5 are SOURCES, DIRECTORY 6 has FILE 7.
    private static final String CHAIN = Script.range("path 0 # file = #", 1, 5) + """
        path 0 6 dir = 6; path 6 1 file = 7
        action; action; input 0 1; output 0 2; input 1 2; output 1 3
        steps 0 0:0 1:120 3:0; steps 1 0:0 1:121 3:0; put 0 1 's'
        """;

    public static void main(String[] args) {
        build();
        buildNothing();
        needed();
        neededDeeper();
        order();
        forty();
        run();
        found();
        oneSign();
        done();
        doneChanged();
        changed();
        changedHead();
        changedParts();
        changedLatest();
        key();
        keyRows();
        longestKey();
        sign();
        isClean();
        isCleanAnew();
        Script.end("BuildsEdgesTest");
    }

    private static void build() {
        Script.edge("build: BAD",
            CHAIN, "build 0 2 = 1; feed 1 1", Script.each("build # NONE ! BAD", LEAST, -2, -1, 2, 3, MOST),
            Script.each("build 0 # ! BAD", LEAST, -3, -2, 8, 60, MOST), "count 10 = 1; count 6 = 1; done 0 0 = 0");
        Script.edge("build: a refused one leaves the latest BUILD told",
            CHAIN, "build 0 3 = 2; build 2 2 ! BAD; build 1 8 ! BAD; count 6 = 2; done 1 0 = 1; count 10 = 1");
        Script.edge("A BUILD of a PATH, or NONE: the last PATH, the ROOT",
            CHAIN, "build 0 7 = 0; build 0 0 = 2; build 0 NONE = 0; build 1 1 = 0; count 10 = 4");
        Script.edge("in a SPACE: the other one is as it was",
            CHAIN, "build 0 NONE = 2; holds 0 3 'sxy'; holds 1 3 absent; build 1 NONE = 2; done 0 2 = 1; holds 0 3 'sxy'",
            "holds 0 2 'sx'");
    }

    private static void buildNothing() {
        Script.edge("A BUILD where there is no ACTION",
            "build 0 NONE = 0; build 1 0 = 0; count 6 = 0; count 7 = 0; count 10 = 2; done 0 0 ! BAD");
        Script.edge("A BUILD of a SOURCE, of an empty DIRECTORY",
            CHAIN, "build 0 NONE = 2; build 0 1 = 0; count 6 = 0; done 0 0 ! BAD; build 0 6 = 0; count 6 = 0; count 10 = 3",
            "count 8 = 0");
        Script.edge("A BUILD of an ACTION without OUTPUTS: by NONE alone",
            "action; build 0 0 = 0; count 6 = 0; build 0 NONE = 1; count 6 = 1");
    }

    private static void needed() {
        Script.edge("NEEDED are the ACTIONS of which it is an OUTPUT",
            CHAIN, "build 0 2 = 1; count 6 = 1; done 0 0 = 0; done 1 0 ! BAD; holds 0 3 absent");
        Script.edge("NEEDED are those that these USE", CHAIN, "build 0 3 = 2; count 6 = 2; done 0 0 = 0; done 1 0 = 1");
        Script.edge("NEEDED are not those by which it is USED",
            CHAIN, "build 0 NONE = 2; put 0 1 't'; build 0 2 = 1; holds 0 2 'tx'; holds 0 3 'sxy'");
        Script.edge("NEEDED by the third OUTPUT",
            CHAIN, "output 0 4 = 2; output 0 5 = 3; build 0 5 = 1; count 6 = 1; build 0 4 = 0; count 6 = 1");
        Script.edge("NEEDED by the sixth INPUT",
            CHAIN, "action; path 6 2 file = 8; output 2 7; path 6 3 file = 9; output 2 8; action; output 3 4; input 3 1",
            "input 3 5; input 3 6; input 3 0 ! CIRCLE; input 3 9; input 3 2; input 3 3 = 6; build 0 4 = 4; count 6 = 4",
            "done 3 0 = 3");
        Script.edge("NEEDED of a DIRECTORY: a FILE in it", CHAIN, "action; output 2 7; build 0 6 = 1; count 6 = 1; done 0 0 = 2");
        Script.edge("NEEDED of a DIRECTORY: each once",
            CHAIN, "action; output 2 7; path 6 2 file = 8; output 2 8; path 6 3 file = 9; action; output 3 9; build 0 6 = 2",
            "count 6 = 2; done 0 0 = 2; done 1 0 = 3");
        Script.edge("of NONE all ACTIONS, those that nobody USES, too",
            CHAIN, "action; build 0 NONE = 3; count 6 = 3; done 2 0 = 2; build 0 0 = 0; count 6 = 2");
    }

    private static void neededDeeper() {
        Script.edge("a FILE in it, not deeper",
            CHAIN, "action; path 6 2 dir = 8; path 8 1 file = 9; output 2 9; build 0 6 = 0; count 6 = 0; build 0 8 = 1",
            "count 6 = 1; build 0 0 = 2; count 6 = 2");
        Script.edge("those that these USE by a DIRECTORY, not deeper",
            CHAIN, "action; path 6 2 dir = 8; path 8 1 file = 9; output 2 9; action; input 3 6; output 3 4; build 0 4 = 1",
            "count 6 = 1; input 3 8; build 0 4 = 2; count 6 = 2; done 0 0 = 2");
        Script.edge("those that these USE, and so on: not what is beside the way",
            CHAIN, "action; input 2 2; output 2 4; build 0 4 = 2; count 6 = 2; done 0 0 = 0; done 1 0 = 2; holds 0 3 absent");
    }

    private static void order() {
        String four = Script.range("path 0 # file", 1, 9) + Script.range("action = #", 0, 3) + Script.range("step # 1 #", 0, 3)
            + "output 0 1; output 1 2; output 2 3; output 3 4\n";
        Script.edge("always the least one: none USES another", four, "build 0 NONE = 4", Script.range("done # 0 = #", 0, 3));
        Script.edge("always the least one all of whose NEEDED ones are DONE: 0 USES 3",
            four, "input 0 4; build 0 NONE = 4; done 0 0 = 1; done 1 0 = 2; done 2 0 = 3; done 3 0 = 0");
        Script.edge("always the least one: 0 comes as soon as it can",
            four, "input 0 2; build 0 NONE = 4; done 0 0 = 1; done 1 0 = 0; done 2 0 = 2; done 3 0 = 3");
        Script.edge("always the least one: all the way round",
            four, "input 0 2; input 1 3; input 2 4; build 0 NONE = 4; done 0 0 = 3; done 1 0 = 2; done 2 0 = 1; done 3 0 = 0",
            "build 0 2 = 0; done 0 0 = 3; done 2 0 = 1; done 3 0 ! BAD");
        Script.edge("all of its NEEDED ones: 1 waits for 2 and for 3",
            four, "input 1 3; input 1 4; build 0 NONE = 4; done 0 0 = 0; done 1 0 = 2; done 2 0 = 3; done 3 0 = 1");
        Script.edge("one that is erased waits for none",
            four, "input 0 4; erase 0 = 1; build 0 NONE = 4; done 0 0 = 0; done 3 0 = 3");
    }

    private static void forty() {
        String all = Script.range("path 0 # file", 1, 9) + Script.range("action = #", 0, 39) + Script.range("step # 1 #", 0, 39);
        Script.edge("all 40 are DONE",
            all, "build 1 NONE = 40; count 6 = 40", Script.range("done # 0 = #", 0, 39), "done 40 0 ! BAD; count 7 = 40",
            "build 0 NONE = 0; count 8 = 40; count 6 = 40");
        Script.edge("40 ACTIONS of one KEY are RUN once",
            Script.range("action = #", 0, 39), "build 1 NONE = 1; count 6 = 40; count 7 = 1; count 8 = 39; entry 0 3 = 39",
            "count 3 = 1; done 39 0 = 39; done 39 1 = 0; done 0 1 = 1");
        Script.edge("the 40th USES the first, the first the 39th",
            all, "output 0 1; input 39 1; output 38 2; input 0 2; build 0 NONE = 40; done 0 0 = 1; done 36 0 = 37; done 37 0 = 38",
            "done 38 0 = 0; done 39 0 = 39");
    }

    private static void run() {
        Script.edge("how many PROGRAMS were RUN: failing ones, too",
            CHAIN, "remove 0 1; build 0 NONE = 2; done 0 2 = 1; done 1 2 = 1; count 7 = 2; build 0 NONE = 0; count 7 = 2",
            "count 8 = 2");
        Script.edge("how many PROGRAMS were RUN: those of this BUILD",
            CHAIN, "build 0 2 = 1; build 0 3 = 1; build 0 3 = 0; put 0 1 't'; build 0 3 = 2; count 7 = 4; count 8 = 3");
        Script.edge("with its KEY as it is then: what was MADE ahead counts",
            CHAIN, "build 0 NONE = 2; put 0 1 't'; changed 0 1 = 0; build 0 NONE = 2; holds 0 3 'txy'; changed 0 1 = 0");
        Script.edge("RUN again where all is forgotten: the same comes",
            CHAIN, "build 0 NONE = 2; forget = 2; build 0 NONE = 2; holds 0 3 'sxy'; done 0 3 = 0; done 1 3 = 0");
    }

    private static void found() {
        Script.edge("FOUND whoever asks: another ACTION, another SPACE",
            CHAIN, "build 0 NONE = 2; action; input 2 4; output 2 5; steps 2 0:0 1:120 3:0; put 1 4 's'; build 1 5 = 0",
            "done 0 1 = 0; holds 1 5 'sx'; count 8 = 1");
        Script.edge("FOUND: its OUTPUTS become what it COMES TO, ABSENT, too",
            CHAIN, "output 0 4; build 0 2 = 1; steps 0 1:122 3:1; build 0 2 = 1; holds 0 4 'z'; erase 0; input 0 1; output 0 2",
            "output 0 4; steps 0 0:0 1:120 3:0; build 0 2 = 0; holds 0 4 absent; holds 0 2 'sx'");
        Script.edge("FOUND: with one byte more it is not",
            CHAIN, "build 0 2 = 1; put 0 1 's\0'; build 0 2 = 1; put 0 1 ''; build 0 2 = 1; put 0 1 's'; build 0 2 = 0",
            "count 3 = 3");
        Script.edge("FOUND: an empty INPUT is no ABSENT one",
            CHAIN, "write 0 1; build 0 2 = 1; remove 0 1; build 0 2 = 1; done 0 2 = 1; count 3 = 2");
        Script.edge("FOUND: not with an OUTPUT more",
            CHAIN, "build 0 2 = 1; output 0 4 = 2; build 0 2 = 1; output 0 5 = 3; build 0 2 = 1; entry 2 4 = 3");
    }

    /** Two CONTENTS that were looked for so that the KEYS with them have one SIGN. */
    private static void oneSign() {
        long one = sign(1, 2, 0, 0, 3, 0, 1, 16,
            0x44, 0x20, 0x82, 0x3c, 0xfd, 0xe6, 0xf1, 0xc2, 0x6b, 0x30, 0xf9, 0x0e, 0x9b, 0xfc, 0xc7, 0x40);
        long other = sign(1, 2, 0, 0, 3, 0, 1, 16,
            0x41, 0x20, 0x84, 0x24, 0xce, 0xa6, 0x18, 0xf9, 0x69, 0x1e, 0x61, 0x0a, 0x80, 0x25, 0xd5, 0x42);
        Script.edge("FOUND: by its KEY, not by its SIGN",
            CHAIN, "erase 0 = 3; input 0 1; output 0 2; steps 0 0:0 3:0; feed 0x4420823cfde6f1c2 8; feed 0x6b30f90e9bfcc740 8",
            "write 0 1; feed 0x41208424cea618f9 8; feed 0x691e610a8025d542 8", "write 1 1; key 0 0 = " + one, "key 1 0 = " + other,
            "build 0 2 = 1; build 1 2 = 1; byteAt 0 2 15 = 64; byteAt 1 2 15 = 66; count 3 = 2; copy 1 = 1; changed 1 0 = 10",
            "build 1 2 = 0; entry 1 3 = 1; entry 0 3 = 0");
        Due.is("they have one SIGN", one, other);
    }

    private static void done() {
        Script.edge("done: BAD ahead of the first BUILD", CHAIN, Script.range("done 0 # ! BAD", 0, 3));
        Script.edge("done: BAD",
            CHAIN, "build 0 NONE = 2", Script.each("done # 0 ! BAD", LEAST, -2, -1, 2, 3, 39, 40, 64, MOST),
            Script.each("done 1 # ! BAD", LEAST, -1, 4, 5, MOST), "done 0 0 ~ 0; done 1 0 ~ 1; done 1 1 ~ 1; done 1 2 ~ 0",
            "done 1 3 ~ NONE");
        Script.edge("Of the latest BUILD: a shorter one",
            CHAIN, "build 0 NONE = 2; build 0 2 = 0; done 0 0 = 0; done 0 1 = 0; done 1 0 ! BAD; build 0 1 = 0; done 0 0 ! BAD");
        Script.edge("its failure: of RUN and of FOUND ones",
            CHAIN, "steps 1 11:0; build 0 NONE = 2; done 0 2 = 0; done 1 2 = 5; build 0 NONE = 0; done 1 2 = 5; done 1 1 = 0",
            "done 0 2 = 0");
        Script.edge("the latest BUILD, in whatever SPACE",
            CHAIN, "build 0 NONE = 2; build 1 2 = 1; count 6 = 1; done 0 2 = 1; done 0 3 = NONE");
    }

    private static void doneChanged() {
        Script.edge("CHANGED as it was ahead of that: -1, then 0",
            CHAIN, "build 0 NONE = 2; done 0 3 = NONE; done 1 3 = NONE; build 0 NONE = 0; done 0 3 = 0; done 1 3 = 0",
            "build 1 NONE = 2; done 0 3 = NONE");
        Script.edge("CHANGED as it was ahead of that: with what was MADE ahead",
            CHAIN, "build 0 NONE = 2; put 0 1 't'; build 0 NONE = 2; done 0 3 = 10; done 1 3 = 10; changed 0 1 = 0; done 1 3 = 10");
        Script.edge("CHANGED as it was ahead of that: 1",
            CHAIN, "build 0 NONE = 2; step 1 4 0; put 0 1 't'; build 0 NONE = 2; done 0 3 = 10; done 1 3 = 1");
        Script.edge("CHANGED as it was ahead of that: 15",
            CHAIN, "input 0 4; input 0 5; input 0 6; path 0 8 file = 8; input 0 8; path 0 9 file = 9; input 0 9 = 6",
            "build 0 2 = 1; write 0 9; build 0 2 = 1; done 0 3 = 15; build 0 2 = 0; done 0 3 = 0");
    }

    private static void changed() {
        Script.edge("changed: BAD",
            CHAIN, "build 0 2 = 1", Script.each("changed # 0 ! BAD", LEAST, -1, 2, MOST),
            Script.each("changed 0 # ! BAD", LEAST, -2, -1, 2, 40, MOST));
        Script.edge("-1 it never was: in each SPACE",
            CHAIN, "changed 0 0 ~ NONE; changed 1 0 ~ NONE; build 0 2 = 1; changed 0 0 ~ 0; changed 1 0 ~ NONE",
            "changed 0 1 ~ NONE; build 1 3 = 2; changed 1 1 ~ 0; changed 0 1 ~ NONE");
        Script.edge("-1 it never was: whatever is written, and isClean is no time",
            CHAIN, "put 0 1 't'; step 0 4 0; isClean 0 = 0; changed 0 0 = NONE; key 0 0; changed 0 0 = NONE");
        Script.edge("0 nothing: of an ACTION without anything",
            "action; build 0 NONE = 1; changed 0 0 ~ 0; changed 1 0 ~ NONE; erase 0 = 0; changed 0 0 ~ 0");
        Script.edge("0 nothing: its OUTPUTS' CONTENTS do not matter",
            CHAIN, "build 0 NONE = 2; erase 1; input 1 2; output 1 3; steps 1 0:0 1:121 3:0; length 0 3 = NONE; changed 0 1 = 0");
    }

    private static void changedHead() {
        Script.edge("1: an OUTPUT more, a STEP more, an INPUT more",
            CHAIN, "build 0 2; output 0 4; changed 0 0 = 1; build 0 2; changed 0 0 = 0; step 0 8 255; changed 0 0 = 1; build 0 2",
            "changed 0 0 = 0; input 0 4 ! CIRCLE; input 0 5; changed 0 0 = 1; build 0 2; changed 0 0 = 0");
        Script.edge("1: an OUTPUT less",
            CHAIN, "output 0 4; build 0 2; erase 0; input 0 1; output 0 2; steps 0 0:0 1:120 3:0; changed 0 0 = 1");
        Script.edge("1: a STEP less",
            CHAIN, "build 0 2; erase 0; input 0 1; output 0 2; steps 0 0:0 1:120; changed 0 0 = 1; step 0 3 0; changed 0 0 = 0");
        Script.edge("1: an INPUT less",
            CHAIN, "input 0 5; build 0 2; erase 0; input 0 1; output 0 2; steps 0 0:0 1:120 3:0; changed 0 0 = 1; input 0 5",
            "changed 0 0 = 0");
        Script.edge("1: the first STEP's number, the last STEP's v",
            CHAIN, "build 0 2; erase 0; input 0 1; output 0 2; steps 0 4:0 1:120 3:0; changed 0 0 = 1; erase 0; input 0 1",
            "output 0 2; steps 0 0:0 1:120 3:1; changed 0 0 = 1");
        Script.edge("1: ahead of its INPUTS' parts",
            CHAIN, "build 0 2; put 0 1 't'; changed 0 0 = 10; step 0 4 0; changed 0 0 = 1; input 0 5; changed 0 0 = 1");
        Script.edge("1: no INPUT left at all", CHAIN, "build 0 2; erase 0; output 0 2; steps 0 0:0 1:120 3:0; changed 0 0 = 1");
    }

    private static void changedParts() {
        String six = Script.range("path 0 # file = #", 1, 5) + "path 0 6 dir = 6; path 6 1 file = 7; path 6 2 file = 8; action\n"
            + Script.range("input 0 # = #", 1, 6) + "build 0 NONE = 1\n";
        Script.edge("10 and i: each INPUT, the last one first",
            six, "changed 0 0 = 0; write 0 7; changed 0 0 = 15; write 0 5; changed 0 0 = 14; write 0 4; changed 0 0 = 13",
            "write 0 3; changed 0 0 = 12; write 0 2; changed 0 0 = 11; write 0 1; changed 0 0 = 10; changed 1 0 = NONE");
        Script.edge("10 and i: ABSENT, empty, one byte",
            six, "write 0 3; changed 0 0 = 12; build 0 NONE; changed 0 0 = 0; put 0 3 '\0'; changed 0 0 = 12; build 0 NONE",
            "remove 0 3; changed 0 0 = 12; build 0 NONE; changed 0 0 = 0");
        Script.edge("10 and i: a byte of as many",
            six, "fill 0 3 64 97; build 0 NONE; fill 0 3 64 98; changed 0 0 = 12; fill 0 3 63 97; changed 0 0 = 12",
            "fill 0 3 64 97; changed 0 0 = 0", "put 0 3 '" + "a".repeat(63) + "b'; changed 0 0 = 12");
        Script.edge("10 and i: a part that goes on as the next one did",
            six, "put 0 1 'a'; put 0 2 'a'; build 0 NONE; put 0 1 'a\1'; write 0 2; changed 0 0 = 10; put 0 1 'a'",
            "changed 0 0 = 11");
        Script.edge("10 and i: a DIRECTORY by the NAMES that are LISTED",
            six, "write 0 7; changed 0 0 = 15; build 0 NONE; put 0 7 'other'; changed 0 0 = 0; write 0 8; changed 0 0 = 15",
            "remove 0 7; changed 0 0 = 15; write 0 7; remove 0 8; changed 0 0 = 0");
        Script.edge("the PATH itself does not matter: of a FILE",
            CHAIN, "put 0 5 's'; build 0 2 = 1; erase 0; input 0 5; output 0 4; steps 0 0:0 1:120 3:0; changed 0 0 = 0",
            "build 0 4 = 0; holds 0 4 'sx'");
        Script.edge("the PATH itself does not matter: of a DIRECTORY",
            "path 0 1 dir; path 0 2 dir; path 1 3 file; path 2 3 file; action; input 0 1; write 0 3; put 0 4 'z'",
            "build 0 NONE = 1; erase 0; input 0 2; changed 0 0 = 0; build 0 NONE = 0");
        Script.edge("a FILE in place of a DIRECTORY matters",
            "path 0 1 dir; path 0 2 file; action; input 0 1; build 0 NONE = 1; erase 0; input 0 2; changed 0 0 = 10; write 0 2",
            "changed 0 0 = 10; build 0 NONE = 1");
        Script.edge("ABSENT INPUTS in another order are the same",
            six, "write 0 1; build 0 NONE = 1; erase 0", Script.each("input 0 #", 1, 5, 4, 3, 2, 6), "changed 0 0 = 0",
            "build 0 NONE = 0");
    }

    private static void changedLatest() {
        Script.edge("the latest time: FOUND is a time",
            CHAIN, "build 0 2 = 1; put 0 1 't'; build 0 2 = 1; put 0 1 's'; changed 0 0 = 10; build 0 2 = 0; changed 0 0 = 0",
            "put 0 1 't'; changed 0 0 = 10");
        Script.edge("the latest time: a failing one is a time",
            CHAIN, "step 0 11 0; build 0 2 = 1; changed 0 0 = 0; remove 0 1; build 0 2 = 1; changed 0 0 = 0");
        Script.edge("the latest time: its ENTRY may be gone",
            CHAIN, "build 0 2 = 1; forget = 1; changed 0 0 = 0; capacity 0 = 0; build 0 2 = 1; changed 0 0 = 0; put 0 1 't'",
            "changed 0 0 = 10; build 0 2 = 1; changed 0 0 = 0");
        Script.edge("the latest time that it was DONE there",
            CHAIN, "build 0 2 = 1; put 1 1 't'; build 1 2 = 1; changed 0 0 = 0; changed 1 0 = 0; copy 0 = 1; changed 0 0 = 10",
            "changed 1 0 = 0");
        Script.edge("the latest time: not that of another ACTION",
            CHAIN, "build 0 3 = 2; put 0 1 't'; build 0 2 = 1; changed 0 1 = 10; changed 0 0 = 0; build 0 3 = 1; changed 0 1 = 0");
    }

    private static void key() {
        Script.edge("0: BAD",
            CHAIN, Script.each("key # 0 ~ 0", LEAST, -1, 2, MOST), Script.each("key 0 # ~ 0", LEAST, -2, -1, 2, 40, MOST));
        Script.edge("THE SIGN as it is now",
            CHAIN, "key 0 0 ~ " + sign(1, 3, 0, 0, 1, 120, 3, 0, 1, 1, 's'), "key 1 0 ~ " + sign(1, 3, 0, 0, 1, 120, 3, 0, 1, -1),
            "build 0 NONE = 2", "entry 0 0 = " + sign(1, 3, 0, 0, 1, 120, 3, 0, 1, 1, 's'), "put 0 1 't'",
            "key 0 0 ~ " + sign(1, 3, 0, 0, 1, 120, 3, 0, 1, 1, 't'), "entry 0 0 = " + sign(1, 3, 0, 0, 1, 120, 3, 0, 1, 1, 's'));
        Script.edge("a KEY as it was stays with its ENTRY",
            CHAIN, "build 0 2 = 1; step 0 4 0; put 0 1 't'; entry 0 0 = " + sign(1, 3, 0, 0, 1, 120, 3, 0, 1, 1, 's'));
    }

    private static void keyRows() {
        Script.edge("KEY: no OUTPUTS, no STEPS, no INPUTS", "action; key 0 0 = " + sign(0, 0, 0), "key 1 0 = " + sign(0, 0, 0));
        Script.edge("KEY: -1, if ABSENT", "path 0 1 file; action; input 0 1; key 0 0 = " + sign(0, 0, 1, -1));
        Script.edge("KEY: how many bytes: none", "path 0 1 file; action; input 0 1; write 0 1; key 0 0 = " + sign(0, 0, 1, 0));
        Script.edge("KEY: these (without sign)",
            "path 0 1 file; action; input 0 1; feed 0x7f80ff00 4; write 0 1; key 0 0 = " + sign(0, 0, 1, 4, 127, 128, 255, 0));
        long[] longest = new long[68];
        longest[2] = 1;
        longest[3] = 64;
        for (int i = 4; i < 68; i++) longest[i] = 255;
        Script.edge("KEY: 64 bytes", "path 0 1 file; action; input 0 1; fill 0 1 64 255; key 0 0 = " + sign(longest));
        Script.edge("KEY: -2 and how many are LISTED: none",
            "path 0 1 dir; path 1 1 file; action; input 0 1; key 0 0 = " + sign(0, 0, 1, -2, 0));
        Script.edge("KEY: these NAMES, rising",
            "path 0 1 dir; path 1 26 file; path 1 1 file; path 1 7 dir; action; input 0 1",
            "write 0 2; key 0 0 = " + sign(0, 0, 1, -2, 1, 26), "write 0 3; key 0 0 = " + sign(0, 0, 1, -2, 2, 1, 26),
            "key 1 0 = " + sign(0, 0, 1, -2, 0));
        long[] names = new long[31];
        names[2] = 1;
        names[3] = -2;
        names[4] = 26;
        for (int i = 5; i < 31; i++) names[i] = i - 4;
        Script.edge("KEY: 26 NAMES",
            "path 0 1 dir", Script.range("path 1 # file", 1, 26), Script.range("write 1 #", 2, 27),
            "action; input 0 1; key 1 0 = " + sign(names));
        long[] steps = new long[35];
        steps[1] = 16;
        for (int i = 0; i < 16; i++) {
            steps[2 + 2 * i] = i % 14;
            steps[3 + 2 * i] = 240 + i;
        }
        StringBuilder sixteen = new StringBuilder("action\n");
        for (int i = 0; i < 16; i++) sixteen.append("step 0 " + i % 14 + " " + (240 + i) + "\n");
        Script.edge("KEY: 16 STEPS, of each its number, v", sixteen.toString(), "key 0 0 = " + sign(steps));
        Script.edge("KEY: three OUTPUTS, six INPUTS, in order",
            Script.range("path 0 # file", 1, 8), "path 0 9 dir = 9; action; output 0 6; output 0 7; output 0 8",
            Script.each("input 0 #", 5, 9, 1, 2, 3, 4),
            "write 0 5; put 0 1 'b'; key 0 0 = " + sign(3, 0, 6, 0, -2, 0, 1, 'b', -1, -1, -1));
    }

    /** All that a KEY can hold: 3 OUTPUTS, 16 STEPS, 6 INPUTS of 64 bytes. */
    private static void longestKey() {
        long[] row = new long[425];
        row[0] = 3;
        row[1] = 16;
        StringBuilder all = new StringBuilder(Script.range("path 0 # file", 1, 9) + "action; output 0 7; output 0 8; output 0 9\n");
        for (int i = 0; i < 16; i++) {
            all.append("step 0 10 ").append(255 - i).append('\n');
            row[2 + 2 * i] = 10;
            row[3 + 2 * i] = 255 - i;
        }
        row[34] = 6;
        for (int p = 1; p <= 6; p++) {
            all.append("input 0 " + p + "; fill 0 " + p + " 64 " + (96 + p) + "\n");
            row[35 + 65 * (p - 1)] = 64;
            for (int i = 1; i <= 64; i++) row[35 + 65 * (p - 1) + i] = 96 + p;
        }
        Script.edge("KEY: the longest",
            all.toString(), "key 0 0 ~ " + sign(row), "build 0 NONE = 1; entry 0 0 = " + sign(row), "changed 0 0 = 0",
            "put 0 6 '" + "f".repeat(63) + "g'; changed 0 0 = 15; build 0 NONE = 1; done 0 3 = 15", "fill 0 6 64 102",
            "build 0 NONE = 0; changed 0 0 = 0",
            "put 0 1 'z" + "a".repeat(63) + "'; changed 0 0 = 10; build 0 NONE = 1; fill 0 1 64 97; changed 0 0 = 10; build 0 NONE = 0");
    }

    /** By numbers without a bound, and cut to 64 bits at each turn. */
    private static long sign(long... numbers) {
        BigInteger around = BigInteger.ONE.shiftLeft(64);
        BigInteger h = new BigInteger("1469598103934665603");
        for (long number : numbers) {
            BigInteger bits = BigInteger.valueOf(number).mod(around);
            h = h.xor(bits).multiply(new BigInteger("1099511628211")).mod(around);
        }
        return h.longValue();
    }

    private static void sign() {
        Script.edge("times 1099511628211 (wrapping)",
            "action; key 0 0 = " + (((1469598103934665603L * 1099511628211L) * 1099511628211L) * 1099511628211L));
        Script.edge("THE SIGN is told below 0, too",
            CHAIN, "build 0 NONE = 2; entry 0 0 = " + sign(1, 3, 0, 0, 1, 120, 3, 0, 1, 1, 's'),
            "entry 1 0 = " + sign(1, 3, 0, 0, 1, 121, 3, 0, 1, 2, 's', 'x'));
        // A CONTENT that was looked for so that the KEY's SIGN is 0.
        Script.edge("0: BAD (a SIGN may be it)",
            CHAIN, "erase 0; input 0 1; output 0 2; steps 0 0:0 3:0; feed 0xebbcb4fa467490c6 8; feed 0xdc 1; write 0 1 = 9",
            "key 0 0 ~ 0; changed 0 0 = NONE; build 0 2 = 1; entry 0 0 = 0; entry 0 1 = 25; changed 0 0 = 0; done 0 3 = NONE",
            "build 0 2 = 0; entry 0 3 = 1; copy 1 = 1; build 1 2 = 0; byteAt 1 2 8 = 220; put 0 1 's'; changed 0 0 = 10",
            "build 0 2 = 1; count 3 = 2");
        Due.is("one of them is below 0", sign(0, 0, 1, -1) < 0 || sign(0, 0, 0) < 0 || sign(0, 0, 1, 0) < 0 ? 1 : 0, 1);
    }

    private static void isClean() {
        Script.edge("isClean: BAD", CHAIN, Script.each("isClean # ! BAD", LEAST, -1, 2, 3, MOST));
        Script.edge("isClean: where nothing is MADE",
            "isClean 0 ~ 1; path 0 1 file; put 0 1 'x'; isClean 0 ~ 1; action; step 0 11 0; isClean 0 ~ 1; isClean 1 ~ 1");
        Script.edge("isClean: ABSENT where it would FAIL", CHAIN, "isClean 1 ~ 1; isClean 0 ~ 0; remove 0 1; isClean 0 ~ 1");
        Script.edge("isClean: ABSENT where it would be empty",
            CHAIN, "erase 0; output 0 2; isClean 0 ~ 1; step 0 3 0; erase 1; isClean 0 ~ 0; build 0 NONE; isClean 0 ~ 1",
            "isClean 1 ~ 0");
        Script.edge("nothing is changed by it",
            CHAIN, "build 0 NONE = 2; put 0 1 't'; isClean 0 ~ 0; holds 0 3 'sxy'; count 7 = 2; count 3 = 2; isClean 1 ~ 1",
            "build 0 2 = 1; isClean 0 ~ 0; build 0 3 = 1; isClean 0 ~ 1");
        Script.edge("all OUTPUTS: the last of three is another",
            CHAIN, "output 0 4; output 0 5; build 0 NONE = 2; isClean 0 = 1; steps 0 3:2; isClean 0 ~ 0; build 0 5 = 1",
            "isClean 0 ~ 1");
    }

    private static void isCleanAnew() {
        Script.edge("RUN anew in the told order: not as the OUTPUTS stand",
            CHAIN, "build 0 NONE = 2; put 0 1 't'; build 0 2 = 1; isClean 0 = 0; build 0 3 = 1; isClean 0 = 1");
        Script.edge("RUN anew: what stands by itself is not enough",
            CHAIN, "build 0 NONE = 2; put 0 1 't'; changed 0 1 = 0; isClean 0 = 0");
        Script.edge("all OUTPUTS: the first is another, though the one made of it is not, and the other way round",
            CHAIN, "erase 1; input 1 2; output 1 3; steps 1 0:0 6:0 3:0; build 0 NONE = 2; put 0 1 't'; isClean 0 = 0",
            "build 0 2 = 1; holds 0 3 '2'; changed 0 1 = 10; isClean 0 = 1; put 0 1 'tt'; build 0 2 = 1; isClean 0 = 0");
        Script.edge("RUN anew in the told order: a greater ACTION ahead of a less one",
            CHAIN, "erase 0; erase 1; input 0 2; output 0 3; steps 0 0:0 3:0; input 1 1; output 1 2; steps 1 0:0 4:0 3:0",
            "isClean 0 = 0; build 0 NONE = 2; isClean 0 = 1; put 0 1 'ab'; isClean 0 = 0; build 0 2 = 1; isClean 0 = 0",
            "build 0 3 = 1; holds 0 3 'ba'; isClean 0 = 1");
        Script.edge("RUN anew: one that would FAIL, as what it USES would",
            CHAIN, "build 0 NONE = 2; remove 0 1; isClean 0 = 0; build 0 2 = 1; holds 0 2 absent; isClean 0 = 0",
            "build 0 3 = 1; done 1 2 = 1; isClean 0 = 1");
        Script.edge("RUN anew: what is LISTED anew",
            CHAIN, "action; output 2 7; steps 2 3:0; action; input 3 6; output 3 4; steps 3 2:0 3:0; build 0 NONE = 4",
            "holds 0 4 'a'; isClean 0 = 1; erase 2; isClean 0 = 0; output 2 7; isClean 0 = 0; step 2 3 0; isClean 0 = 0",
            "build 0 7; isClean 0 = 1");
        Script.edge("RUN anew on its SOURCES: the other SPACE's do not matter",
            CHAIN, "build 0 NONE = 2; put 1 1 'u'; isClean 0 = 1; isClean 1 = 0; build 1 NONE = 2; isClean 1 = 1; isClean 0 = 1");
        Script.edge("RUN anew: again and again",
            CHAIN, "build 0 NONE = 2; isClean 0 = 1; remove 0 1; isClean 0 = 0; put 0 1 's'; isClean 0 = 1; isClean 1 = 1",
            "isClean 0 = 1");
        Script.edge("RUN anew: all 40, the last one, too",
            "path 0 1 file", Script.range("action = #", 0, 39), "output 39 1; isClean 1 = 1; step 39 3 0; isClean 1 = 0",
            "build 1 1 = 1; isClean 1 = 1; erase 39; output 0 1; isClean 1 = 1; step 0 3 0; isClean 1 = 0");
        Script.edge("RUN anew: the CACHE does not matter",
            CHAIN, "build 0 NONE = 2; forget = 2; isClean 0 = 1; capacity 0 = 0; isClean 0 = 1; count 9 = 0");
    }
}
