/** Promises 10 to 16, and 'ACTIONS' of the terms: each sentence that names a bound, at it, just below it and just above it. */
public final class ActionsEdgesTest {
    private static final int LEAST = Integer.MIN_VALUE, MOST = Integer.MAX_VALUE;

    // Nine FILES in the ROOT, 1 to 9, and DIRECTORY 10 with FILES 11 and 12 in it.
    private static final String FILES = Script.range("path 0 # file = #", 1, 9)
        + "path 0 10 dir = 10; path 10 1 file = 11; path 10 2 file = 12\n";
    private static final String FORTY = Script.range("action = #", 0, 39);

    // ACTION 0 has all that it can have.
    private static final String FULL_ONE = FILES + "action = 0\n" + Script.range("input 0 # = #", 1, 6)
        + "output 0 7 = 1; output 0 8 = 2; output 0 9 = 3\n" + Script.range("step 0 1 # = #", 1, 16);

    public static void main(String[] args) {
        action();
        input();
        inputFull();
        inputCircle();
        inputOrder();
        output();
        outputTwice();
        outputFull();
        outputCircle();
        outputOrder();
        longestChain();
        step();
        stepFull();
        erase();
        erased();
        about();
        uses();
        Script.end("ActionsEdgesTest");
    }

    private static void action() {
        Script.edge("ACTIONS, 40 at most: the last but one",
            Script.range("action = #", 0, 38), "count 1 = 39; about 38 0 = 0; about 39 0 ! BAD; action = 39; about 39 0 = 0");
        Script.edge("ACTIONS, 40 at most: FULL", FORTY, "action ! FULL; count 1 = 40; action ! FULL; about 40 0 ! BAD");
        Script.edge("ACTIONS, 40 at most: an erased one keeps its number", FORTY, "erase 39 = 0; erase 0 = 0; action ! FULL");
        Script.edge("An ACTION without INPUTS, OUTPUTS, STEPS",
            "action = 0", Script.range("about 0 # = 0", 0, 3), "changed 0 0 = NONE; changed 1 0 = NONE; uses 0 0 = 0");
        Script.edge("An ACTION without anything is DONE all the same",
            "action = 0; build 0 NONE = 1; done 0 2 = 0; entry 0 1 = 16; entry 0 4 = 0; isClean 0 = 1; action = 1",
            "build 0 NONE = 0; done 1 1 = 0");
    }

    private static void input() {
        Script.edge("input: BAD",
            FILES, "action = 0", Script.each("input # 1 ! BAD", LEAST, -2, -1, 1, 2, 40, 64, MOST),
            Script.each("input 0 # ! BAD", LEAST, -2, -1, 13, 60, MOST));
        Script.edge("input: the last PATH, the ROOT and the 40th ACTION",
            FILES, FORTY, "input 39 12 = 1; input 39 0 = 2; input 39 13 ! BAD; input 40 1 ! BAD");
        Script.edge("TWICE: it is one already",
            FILES, "action; input 0 1 = 1; input 0 1 ! TWICE; input 0 10 = 2; input 0 10 ! TWICE; input 0 1 ! TWICE",
            "about 0 0 = 2");
        Script.edge("TWICE: of one ACTION alone", FILES, "action; action; input 0 1 = 1; input 1 1 = 1; input 1 1 ! TWICE");
        Script.edge("TWICE: a DIRECTORY and a FILE in it are two",
            FILES, "action; input 0 11 = 1; input 0 10 = 2; input 0 0 = 3; input 0 1 = 4; input 0 11 ! TWICE");
        Script.edge("INPUTS in order",
            FILES, "action; input 0 9 = 1; input 0 1 = 2; output 0 12; steps 0 0:0 0:1 3:0; put 0 9 'nine'; put 0 1 'one'",
            "build 0 NONE = 1; holds 0 12 'nineone'");
        Script.edge("an INPUT is no OUTPUT: its CONTENT stays",
            FILES, "action; put 0 1 'stays'; input 0 1 = 1; holds 0 1 'stays'; write 0 1 = 0");
    }

    private static void inputFull() {
        Script.edge("6 at most: the sixth",
            FILES, "action", Script.range("input 0 # = #", 1, 5), "about 0 0 = 5; input 0 6 = 6; about 0 0 = 6");
        Script.edge("6 at most: FULL",
            FILES, "action", Script.range("input 0 # = #", 1, 6), Script.each("input 0 # ! FULL", 7, 10, 0, 12), "about 0 0 = 6");
        Script.edge("6 at most: of each ACTION", FULL_ONE, "action = 1", Script.range("input 1 # = #", 1, 6), "input 1 11 ! FULL");
        Script.edge("6 at most: an erased one has room again",
            FULL_ONE, "erase 0 = 16", Script.range("input 0 # = #", 1, 6), "input 0 7 ! FULL");
    }

    private static void inputCircle() {
        Script.edge("CIRCLE: its own OUTPUT", FILES, "action; output 0 1 = 1; input 0 1 ! CIRCLE; input 0 2 = 1");
        Script.edge("CIRCLE: a DIRECTORY with its own OUTPUT in it",
            FILES, "action; output 0 11 = 1; input 0 10 ! CIRCLE; input 0 12 = 1; input 0 0 = 2");
        Script.edge("CIRCLE: the ROOT with its own OUTPUT in it",
            FILES, "action; output 0 1 = 1; input 0 0 ! CIRCLE; input 0 10 = 1");
        Script.edge("no CIRCLE by a DIRECTORY with it in it, but deeper",
            FILES, "action; output 0 11 = 1; input 0 0 = 1; uses 0 0 = 0; about 0 3 = 0; build 0 NONE = 1");
        Script.edge("CIRCLE by two",
            FILES, "action; action; output 0 1; output 1 2; input 0 2 = 1; input 1 1 ! CIRCLE; input 1 0 ! CIRCLE; input 1 3 = 1");
        Script.edge("CIRCLE by three, through a DIRECTORY",
            FILES, "action; action; action; output 0 11; output 1 2; output 2 3; input 1 10 = 1; input 2 2 = 1",
            "input 0 3 ! CIRCLE; input 0 2 ! CIRCLE; input 0 0 ! CIRCLE; input 0 12 = 1");
        Script.edge("no CIRCLE: two ways to one",
            FILES, "action; action; action; output 0 1; output 1 2; output 2 3; input 1 1 = 1; input 2 1 = 1; input 2 2 = 2",
            "build 0 NONE = 3; input 0 3 ! CIRCLE");
        Script.edge("no CIRCLE where it was erased",
            FILES, "action; action; output 0 1; output 1 2; input 0 2 = 1; input 1 1 ! CIRCLE; erase 0 = 0; input 1 1 = 1",
            "output 0 1 = 1; input 0 2 ! CIRCLE; uses 1 0 = 1");
    }

    private static void inputOrder() {
        Script.edge("input, the first that fits: BAD ahead of TWICE, CIRCLE, FULL",
            FULL_ONE, "input 1 1 ! BAD; input 0 13 ! BAD; input -1 7 ! BAD");
        Script.edge("input, the first that fits: TWICE, CIRCLE ahead of FULL",
            FULL_ONE, Script.range("input 0 # ! TWICE", 1, 6), Script.range("input 0 # ! CIRCLE", 7, 9), "input 0 0 ! CIRCLE",
            "input 0 10 ! FULL; input 0 11 ! FULL");
    }

    private static void output() {
        Script.edge("output: BAD",
            FILES, "action = 0", Script.each("output # 1 ! BAD", LEAST, -2, -1, 1, 40, 64, MOST),
            Script.each("output 0 # ! BAD", LEAST, -2, -1, 13, 60, MOST));
        Script.edge("output: KIND of a DIRECTORY",
            FILES, "action", Script.each("output 0 # ! KIND", 0, 10), "about 0 1 = 0; output 0 12 = 1; output 0 9 = 2");
        Script.edge("becomes ABSENT in both SPACES",
            FILES, "action; put 0 1 'zero'; put 1 1 'one'; put 0 2 'other'; output 0 1 = 1; holds 0 1 absent; holds 1 1 absent",
            "holds 0 2 'other'; copy 1 = 1; holds 1 1 absent");
        Script.edge("becomes ABSENT: what was ABSENT, empty",
            FILES, "action; write 0 1 = 0; output 0 1 = 1; holds 0 1 absent; output 0 2 = 2; holds 1 2 absent");
        Script.edge("becomes ABSENT: it is no more LISTED",
            FILES, "action; action; write 0 11; write 0 12; input 1 10; output 1 1; steps 1 2:0 3:0; build 0 1 = 1",
            "holds 0 1 'ab'; output 0 12 = 1; changed 0 1 = 10; build 0 1 = 2; holds 0 1 'a'");
    }

    private static void outputTwice() {
        Script.edge("a FILE is OUTPUT once",
            FILES, "action; output 0 1 = 1; output 0 1 ! TWICE; output 0 2 = 2; output 0 1 ! TWICE; output 0 2 ! TWICE",
            "about 0 1 = 2");
        Script.edge("a FILE is OUTPUT of one ACTION",
            FILES, "action; action; output 0 1 = 1; output 1 1 ! TWICE; about 1 1 = 0; of 1 3 = 0; output 1 2 = 1",
            "output 0 2 ! TWICE");
        Script.edge("TWICE: what is MADE stays",
            FILES, "action; action; output 0 1; steps 0 1:77 3:0; build 0 NONE; output 1 1 ! TWICE; holds 0 1 'M'");
        Script.edge("an OUTPUT again, where it was erased",
            FILES, "action; action; output 0 1 = 1; erase 0 = 0; output 1 1 = 1; output 0 1 ! TWICE; of 1 3 = 1");
    }

    private static void outputFull() {
        Script.edge("3 at most: the third",
            FILES, "action; output 0 1 = 1; output 0 2 = 2; about 0 1 = 2; output 0 3 = 3; about 0 1 = 3; of 3 3 = 0");
        Script.edge("3 at most: FULL",
            FILES, "action; output 0 1; output 0 2; output 0 3 = 3; put 0 4 'stays'; output 0 4 ! FULL; output 0 12 ! FULL",
            "of 4 3 = NONE; holds 0 4 'stays'; write 1 4 = 0");
        Script.edge("3 at most: of each ACTION",
            FILES, "action; action; output 0 1; output 0 2; output 0 3 = 3; output 1 4 = 1; output 1 5 = 2; output 1 6 = 3",
            "output 1 7 ! FULL");
        Script.edge("3 at most: an erased one has room again",
            FULL_ONE, "erase 0 = 16; output 0 1 = 1; output 0 2 = 2; output 0 7 = 3; output 0 8 ! FULL");
        Script.edge("all three OUTPUTS are MADE",
            FULL_ONE, "erase 0; output 0 3; output 0 1; output 0 2; steps 0 1:97 3:2 1:98 3:0 1:99 3:1; build 1 NONE = 1",
            "holds 1 3 'b'; holds 1 1 'c'; holds 1 2 'a'");
    }

    private static void outputCircle() {
        Script.edge("CIRCLE: its own INPUT",
            FILES, "action; input 0 1 = 1; put 0 1 'stays'; output 0 1 ! CIRCLE; holds 0 1 'stays'; output 0 2 = 1");
        Script.edge("CIRCLE: in a DIRECTORY that is its own INPUT",
            FILES, "action; input 0 10 = 1; output 0 11 ! CIRCLE; output 0 12 ! CIRCLE; output 0 1 = 1");
        Script.edge("CIRCLE: in the ROOT that is its own INPUT",
            FILES, "action; input 0 0 = 1; output 0 1 ! CIRCLE; output 0 11 = 1");
        Script.edge("CIRCLE by two",
            FILES, "action; action; output 0 1; input 1 1; input 0 2 = 1; output 1 2 ! CIRCLE; output 1 3 = 1");
        Script.edge("CIRCLE by three, through a DIRECTORY",
            FILES, "action; action; action; output 0 1; output 1 2; input 1 1; input 2 2; input 0 10 = 1; output 2 11 ! CIRCLE",
            "output 1 12 ! CIRCLE; output 0 12 ! CIRCLE; of 11 3 = NONE; output 2 3 = 1");
        Script.edge("no CIRCLE by what others have as INPUT",
            FILES, "action; action; input 1 1 = 1; input 1 10 = 2; output 0 1 = 1; output 0 11 = 2; uses 1 0 = 1; uses 0 1 = 0");
    }

    private static void outputOrder() {
        Script.edge("output, the first that fits: BAD ahead of KIND, TWICE, CIRCLE, FULL",
            FULL_ONE, "output 1 10 ! BAD; output 1 7 ! BAD; output -1 1 ! BAD; output 0 13 ! BAD; output 40 11 ! BAD");
        Script.edge("output, the first that fits: KIND, TWICE, CIRCLE ahead of FULL",
            FULL_ONE, "output 0 10 ! KIND; output 0 0 ! KIND; output 0 7 ! TWICE; output 0 9 ! TWICE",
            Script.range("output 0 # ! CIRCLE", 1, 6), "output 0 11 ! FULL");
        Script.edge("output, the first that fits: KIND ahead of CIRCLE",
            FILES, "action; input 0 10 = 1; output 0 10 ! KIND; input 0 0 = 2; output 0 0 ! KIND; output 0 10 ! KIND");
        Script.edge("output, the first that fits: TWICE ahead of CIRCLE",
            FILES, "action; action; output 0 1 = 1; input 1 1 = 1; output 1 1 ! TWICE; input 1 0 = 2; output 1 1 ! TWICE");
    }

    /** ACTION a READS what ACTION a + 1 MAKES; all 40 of them, so that the way around is as long as can be. */
    private static void longestChain() {
        StringBuilder chain = new StringBuilder("path 0 1 dir; path 0 2 dir\n");
        chain.append(Script.range("path 1 # file", 1, 26)).append(Script.range("path 2 # file", 1, 15)).append(FORTY);
        for (int a = 0; a < 40; a++) chain.append("output " + a + " " + (3 + a) + " = 1\n");
        for (int a = 0; a < 39; a++) chain.append("input " + a + " " + (4 + a) + " = 1\n");
        Script.edge("No ACTION comes to itself: by all 40",
            chain.toString(), "input 39 3 ! CIRCLE; input 39 1 ! CIRCLE; input 39 2 ! CIRCLE; input 39 42 ! CIRCLE",
            "input 39 43 = 1; output 0 43 ! CIRCLE; output 20 43 ! CIRCLE; output 39 43 ! CIRCLE; input 39 0 = 2; build 0 3",
            "count 6 = 40");
    }

    private static void step() {
        Script.edge("step: BAD",
            "action", Script.each("step # 1 1 ! BAD", LEAST, -1, 1, 40, 64, MOST),
            Script.each("step 0 # 1 ! BAD", LEAST, -1, 14, 15, 256, MOST),
            Script.each("step 0 1 # ! BAD", LEAST, -1, 256, 257, 511, MOST), "about 0 2 = 0");
        Script.edge("STEPS' numbers are 0 .. 13",
            "action", Script.range("step 0 # 0", 0, 13), "about 0 2 = 14; step 0 14 0 ! BAD; step 0 -1 0 ! BAD");
        Script.edge("v 0 .. 255, of each number",
            "action; action", Script.range("step 0 # 255", 0, 13), Script.range("step 1 # 0", 0, 13),
            Script.range("step 0 # 256 ! BAD", 0, 13), Script.range("step 1 # -1 ! BAD", 0, 13));
        Script.edge("v 0 .. 255: bytes",
            "path 0 1 file; action; output 0 1; steps 0 1:0 1:1 1:127 1:128 1:254 1:255 3:0; build 0 NONE = 1; length 0 1 = 6",
            "byteAt 0 1 0 = 0; byteAt 0 1 1 = 1; byteAt 0 1 2 = 127; byteAt 0 1 3 = 128; byteAt 0 1 4 = 254; byteAt 0 1 5 = 255");
        Script.edge("A STEP more, what it names may be missing yet",
            "path 0 1 file; action; step 0 0 0 = 1; step 0 3 2 = 2; step 0 9 255 = 3; build 0 NONE = 1; done 0 2 = 3");
    }

    private static void stepFull() {
        Script.edge("16 STEPS at most: the last one",
            "action", Script.range("step 0 1 # = #", 1, 15), "about 0 2 = 15; step 0 1 16 = 16; about 0 2 = 16");
        Script.edge("16 STEPS at most: FULL",
            "action", Script.range("step 0 1 # = #", 1, 16), Script.range("step 0 # 0 ! FULL", 0, 13), "step 0 1 255 ! FULL",
            "about 0 2 = 16");
        Script.edge("16 STEPS at most: BAD ahead of FULL",
            "action", Script.range("step 0 1 # = #", 1, 16), "step 0 14 0 ! BAD; step 0 -1 0 ! BAD; step 0 1 256 ! BAD",
            "step 0 1 -1 ! BAD; step 1 1 1 ! BAD");
        Script.edge("16 STEPS at most: of each ACTION",
            "action; action", Script.range("step 0 1 # = #", 1, 16), Script.range("step 1 1 # = #", 1, 16), "step 1 1 1 ! FULL");
        Script.edge("16 STEPS at most: an erased one has room again",
            "action", Script.range("step 0 1 # = #", 1, 16), "erase 0 = 16", Script.range("step 0 1 # = #", 1, 16),
            "step 0 1 1 ! FULL");
        Script.edge("all 16 STEPS are RUN",
            "path 0 1 file; action; output 0 1", Script.range("step 0 1 # = #", 1, 15), "step 0 3 0 = 16; build 0 NONE = 1",
            "length 0 1 = 15; byteAt 0 1 0 = 1; byteAt 0 1 14 = 15");
    }

    private static void erase() {
        Script.edge("erase: BAD", FULL_ONE, Script.each("erase # ! BAD", LEAST, -2, -1, 1, 40, 64, MOST));
        Script.edge("how many STEPS it had: none",
            FILES, "action; erase 0 ~ 0; input 0 1; output 0 2; erase 0 = 0; about 0 0 = 0; about 0 1 = 0");
        Script.edge("how many STEPS it had: one, and none then", FILES, "action; step 0 11 0 = 1; erase 0 = 1; erase 0 ~ 0");
        Script.edge("how many STEPS it had: 16",
            FULL_ONE, "erase 0 = 16", Script.range("about 0 # = 0", 0, 3), "erase 0 ~ 0; count 1 = 1");
        Script.edge("erase of the 40th",
            FILES, FORTY, "output 39 1; step 39 1 1; erase 39 = 1; of 1 3 = NONE; erase 40 ! BAD; count 1 = 40");
    }

    private static void erased() {
        String made = FILES + "action; action; output 0 1; output 0 2; output 0 3; input 1 1; output 1 4\n"
            + "steps 0 1:97 3:0 1:98 3:1 1:99 3:2; steps 1 0:0 3:0; build 0 NONE = 2; build 1 NONE = 0\n";
        Script.edge("what were its OUTPUTS are SOURCES, ABSENT in both SPACES",
            made, "holds 1 3 'c'; erase 0 = 6", Script.range("length 0 # = NONE", 1, 3), Script.range("length 1 # = NONE", 1, 3),
            Script.range("of # 3 = NONE", 1, 3), Script.range("write 0 # = 0", 1, 3));
        Script.edge("what others MADE stays",
            made, "erase 0 = 6; holds 0 4 'a'; holds 1 4 'a'; of 4 3 = 1; uses 1 0 = 0; about 1 0 = 1; changed 0 1 = 10",
            "write 0 4 ! KIND");
        Script.edge("the ENTRIES stay",
            made, "erase 0 = 6; count 3 = 2; output 0 5; output 0 6; output 0 7; steps 0 1:97 3:0 1:98 3:1 1:99 3:2",
            "build 0 5 = 0; holds 0 7 'c'");
        Script.edge("its INPUTS stay as they are",
            FULL_ONE, "put 0 1 'stays'; write 1 6; erase 0 = 16; holds 0 1 'stays'; holds 1 6 ''; of 1 3 = NONE");
        Script.edge("what it was DONE with stays told",
            made, "erase 0 = 6; changed 0 0 = 1; changed 1 0 = 1; output 0 1; output 0 2; output 0 3",
            "steps 0 1:97 3:0 1:98 3:1 1:99 3:2; changed 0 0 = 0");
        Script.edge("the latest BUILD stays told", made, "erase 0 = 6; count 6 = 2; done 0 0 = 0; done 1 0 = 1; done 1 1 = 0");
    }

    private static void about() {
        Script.edge("about: BAD",
            FULL_ONE, Script.each("about # 0 ! BAD", LEAST, -1, 1, 40, 64, MOST),
            Script.each("about 0 # ! BAD", LEAST, -1, 4, 5, MOST));
        Script.edge("about: full", FULL_ONE, "about 0 0 ~ 6; about 0 1 ~ 3; about 0 2 ~ 16; about 0 3 ~ 0");
        StringBuilder users = new StringBuilder("path 0 1 dir; path 0 2 dir\n");
        users.append(Script.range("path 1 # file", 1, 26)).append(Script.range("path 2 # file", 1, 14)).append(FORTY);
        for (int a = 0; a < 39; a++) users.append("output " + a + " " + (3 + a) + " = 1\n");
        Script.edge("how many ACTIONS it USES: 39",
            users.toString(), "input 39 1 = 1; about 39 3 = 26; input 39 2 = 2; about 39 3 ~ 39; input 39 3 = 3; input 39 42 = 4",
            "about 39 3 = 39", Script.each("uses 39 # ~ 1", 0, 25, 26, 38), "uses 39 39 ~ 0", Script.each("uses # 39 = 0", 0, 38));
        Script.edge("how many ACTIONS it USES: each once, by two OUTPUTS",
            FILES, "action; action; output 0 1; output 0 2; input 1 1; about 1 3 = 1; input 1 2; about 1 3 = 1; about 0 3 = 0");
        Script.edge("how many ACTIONS it USES: not those that these USE",
            FILES, "action; action; action; output 0 1; input 1 1; output 1 2; input 2 2; about 2 3 = 1; uses 2 0 = 0");
    }

    private static void uses() {
        Script.edge("uses: BAD",
            FILES, "action; action; output 0 1; input 1 1", Script.each("uses # 0 ! BAD", LEAST, -1, 2, 40, 64, 65, MOST),
            Script.each("uses 1 # ! BAD", LEAST, -1, 2, 40, 64, MOST), "uses 1 0 ~ 1; uses 0 1 ~ 0; uses 0 0 ~ 0; uses 1 1 ~ 0");
        Script.edge("USES by a DIRECTORY with one in it (not deeper)",
            FILES, "action; action; output 0 11; input 1 0 = 1; uses 1 0 ~ 0; input 1 12 = 2; uses 1 0 ~ 0; input 1 10 = 3",
            "uses 1 0 ~ 1");
        Script.edge("USES by a FILE", FILES, "action; action; output 0 11; input 1 11 = 1; uses 1 0 ~ 1");
        Script.edge("USES by what became an OUTPUT later",
            FILES, "action; action; input 1 11; input 1 10; uses 1 0 = 0; output 0 11 = 1; uses 1 0 = 1; erase 0; uses 1 0 = 0",
            "output 0 12; uses 1 0 = 1; erase 1; uses 1 0 = 0");
        Script.edge("USES by the last of six INPUTS, the last of three OUTPUTS",
            FILES, "action; action", Script.range("input 0 #", 1, 6), "output 1 7; output 1 8; uses 0 1 = 0; output 1 6 = 3",
            "uses 0 1 = 1; about 0 3 = 1");
    }
}
