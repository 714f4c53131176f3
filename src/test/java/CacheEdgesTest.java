/** Promises 22 to 26, and 'THE CACHE' of the terms: each sentence that names a bound, at it, just below it and just above it. */
public final class CacheEdgesTest {
    private static final int LEAST = Integer.MIN_VALUE, MOST = Integer.MAX_VALUE;

    // ACTION 0 copies FILE 1 to FILE 2, so an ENTRY's SIZE is 16 and what FILE 1 has.
    private static final String COPYING = "path 0 1 file; path 0 2 file; action; input 0 1; output 0 2; steps 0 0:0 3:0\n";
    // 40 ACTIONS whose PROGRAMS are others; none has OUTPUTS, so that an ENTRY's SIZE is 16.
    private static final String FORTY = "path 0 1 file\n" + Script.range("action = #", 0, 39) + Script.range("input # 1", 0, 39)
        + Script.range("step # 1 #", 0, 39);

    public static void main(String[] args) {
        capacity();
        capacityEvicts();
        sizes();
        room();
        alone();
        used();
        hundred();
        entry();
        entryNumbers();
        forget();
        counts();
        countBounds();
        clear();
        clearAgain();
        Script.end("CacheEdgesTest");
    }

    private static String built(String text) {
        return "put 0 1 '" + text + "'\nbuild 0 NONE = 1\n";
    }

    private static String foundAgain(String text) {
        return "put 0 1 '" + text + "'\nbuild 0 NONE = 0\n";
    }

    private static void capacity() {
        Script.edge("capacity: BAD",
            COPYING, built("a"), Script.each("capacity # ! BAD", LEAST, -4000, -2, -1, 4001, 4002, 65536, MOST), "count 5 = 1000");
        Script.edge("THE CAPACITY (1000 at first)", "count 5 = 1000; capacity 1000 ~ 0");
        Script.edge("0 .. 4000",
            "capacity 0 = 0; count 5 = 0; capacity 1 = 0; count 5 = 1; capacity 3999 = 0; count 5 = 3999; capacity 4000 = 0",
            "count 5 = 4000; capacity 4001 ! BAD");
    }

    private static void capacityEvicts() {
        String three = COPYING + built("a") + built("bb") + built("ccc");
        Script.edge("how many were EVICTED by it: none, at the bound",
            three, "count 4 = 54; capacity 54 = 0; count 3 = 3; count 9 = 0; capacity 55 = 0");
        Script.edge("how many were EVICTED by it: one, just below",
            three, "capacity 53 = 1; count 3 = 2; count 4 = 37; count 9 = 1; entry 0 1 = 18; entry 1 1 = 19");
        Script.edge("how many were EVICTED by it: one, at the next bound",
            three, "capacity 37 = 1; count 3 = 2; capacity 36 = 1; count 4 = 19; entry 0 1 = 19; count 9 = 2");
        Script.edge("how many were EVICTED by it: two",
            three, "capacity 36 = 2; count 3 = 1; count 9 = 2; entry 0 1 = 19; entry 1 1 = LEAST");
        Script.edge("how many were EVICTED by it: all but the last, all",
            three, "capacity 19 = 2; capacity 18 = 1; count 3 = 0; count 4 = 0; count 9 = 3");
        Script.edge("how many were EVICTED by it: all at once",
            three, "capacity 0 = 3; count 9 = 3; count 4 = 0; capacity 0 = 0; count 9 = 3; capacity 4000 = 0; count 3 = 0",
            built("a"));
        Script.edge("by it: not those that were EVICTED before",
            three, "capacity 53 = 1; capacity 37 = 0; capacity 36 = 1; capacity 0 = 1; count 9 = 3");
        Script.edge("a larger one brings none back",
            three, "capacity 53 = 1; capacity 4000 = 0; count 3 = 2", built("a"), "count 3 = 3; entry 2 1 = 17");
    }

    private static void sizes() {
        Script.edge("SIZE: 16 and the bytes of all CONTENTS: none",
            COPYING, "build 0 NONE = 1; entry 0 1 = 16; entry 0 2 = 1; write 0 1; build 0 NONE = 1; entry 1 1 = 16; entry 1 2 = 0",
            "count 4 = 32");
        Script.edge("SIZE: 16 and the bytes of all CONTENTS: one, 64",
            COPYING, built("a"), "entry 0 1 = 17; fill 0 1 64 98; build 0 NONE = 1; entry 1 1 = 80; count 4 = 97");
        Script.edge("SIZE: of all OUTPUTS, not of INPUTS",
            COPYING, "path 0 3 file; path 0 4 file; output 0 3; output 0 4; steps 0 1:97 3:1 1:98 1:99 3:2", built("xyz"),
            "entry 0 1 = 22; count 4 = 22");
        Script.edge("SIZE: without an OUTPUT",
            "action; steps 0 1:97; build 0 NONE = 1; entry 0 1 = 16; entry 0 4 = 0; count 4 = 16");
    }

    private static void room() {
        Script.edge("All SIZES together are at most THE CAPACITY: at it",
            COPYING, "capacity 34 = 0", built("a"), built("b"), "count 4 = 34; count 3 = 2; count 9 = 0", foundAgain("a"),
            foundAgain("b"));
        Script.edge("All SIZES together are at most THE CAPACITY: one above",
            COPYING, "capacity 34 = 0", built("a"), built("bc"), "count 4 = 18; count 3 = 1; count 9 = 1", foundAgain("bc"),
            built("a"));
        Script.edge("All SIZES together are at most THE CAPACITY: two go for one",
            COPYING, "capacity 51 = 0", built("a"), built("b"), built("c"), "count 4 = 51", built("0123456789abcdef"),
            "count 9 = 2; count 3 = 2; count 4 = 49", foundAgain("c"));
        Script.edge("All SIZES together are at most THE CAPACITY: 1000 at first",
            COPYING, Script.range("feed # 1; write 0 1; build 0 NONE = 1", 1, 58), "count 4 = 986; count 9 = 0",
            built("123456789abcdef"), "count 4 = 1000; count 9 = 1; count 3 = 58", built(""), "count 9 = 2; count 4 = 999");
        StringBuilder much = new StringBuilder("capacity 4000 = 0; path 0 1 file; path 0 2 file; path 0 3 file; path 0 4 file\n");
        much.append("action; input 0 1; output 0 2; output 0 3; output 0 4; steps 0 0:0 3:0 0:0 3:1 0:0 3:2\n");
        for (int i = 1; i <= 18; i++) much.append("fill 0 1 64 " + (96 + i) + "; build 0 NONE = 1\n");
        for (int many : new int[] {10, 20, 30, 4}) much.append("fill 0 1 " + many + " 97; build 0 NONE = 1\n");
        Script.edge("All SIZES together are at most THE CAPACITY: 4000",
            much.toString(), "count 4 = 4000; count 3 = 22; count 9 = 0; capacity 4000 ~ 0; remove 0 1; build 0 NONE = 1",
            "count 4 = 3808; count 9 = 1; entry 0 1 = 208; entry 21 1 = 16");
    }

    private static void alone() {
        Script.edge("it goes, too, if it alone is too much",
            COPYING, "capacity 20 = 0", built("abcde"), "count 3 = 0; count 4 = 0; count 9 = 1; entry 0 0 = LEAST",
            "holds 0 2 'abcde'; done 0 1 = 1; done 0 2 = 0; changed 0 0 = 0; build 0 NONE = 1; count 9 = 2");
        Script.edge("it stays, if it alone is just enough",
            COPYING, "capacity 20 = 0", built("abcd"), "count 3 = 1; count 4 = 20; count 9 = 0; build 0 NONE = 0");
        Script.edge("all others go ahead of it",
            COPYING, "capacity 34 = 0", built("a"), built("b"), built("0123456789abcdefghi"), "count 3 = 0; count 9 = 3",
            "count 4 = 0; holds 0 2 '0123456789abcdefghi'", built("a"), "count 3 = 1");
        Script.edge("it alone is just enough: the others go",
            COPYING, "capacity 34 = 0", built("a"), built("b"), built("0123456789abcdefgh"), "count 3 = 1; count 9 = 2",
            "count 4 = 34; entry 0 1 = 34");
        Script.edge("THE CAPACITY is 15, 16",
            COPYING, "capacity 15 = 0; build 0 NONE = 1; count 3 = 0; count 9 = 1; capacity 16 = 0; build 0 NONE = 1; count 3 = 1",
            "build 0 NONE = 0; count 9 = 1; capacity 15 = 1; count 9 = 2");
        Script.edge("THE CAPACITY is 0: a BUILD is as ever",
            COPYING, "capacity 0 = 0; path 0 3 file; action; input 1 2; output 1 3; steps 1 0:0 0:0 3:0; put 0 1 'ab'",
            "build 0 NONE = 2; holds 0 3 'abab'; count 3 = 0; count 9 = 2; isClean 0 = 1; build 0 NONE = 2; count 9 = 4",
            "count 7 = 4; count 8 = 0");
        Script.edge("what went is not FOUND within the same BUILD",
            "capacity 0 = 0; action; action; build 0 NONE = 2; count 9 = 2; capacity 16 = 0; build 0 NONE = 1; count 8 = 1",
            "count 3 = 1");
    }

    private static void used() {
        String three = COPYING + "capacity 51 = 0\n" + built("a") + built("b") + built("c");
        Script.edge("one that is USED goes to its end: the first",
            three, foundAgain("a"), "entry 0 3 = 0; entry 1 3 = 0; entry 2 3 = 1", built("d"), foundAgain("c"), foundAgain("a"),
            built("b"));
        Script.edge("one that is USED goes to its end: the middle one",
            three, foundAgain("b"), "entry 2 3 = 1", built("d"), foundAgain("c"), foundAgain("b"), built("a"));
        Script.edge("one that is USED goes to its end: the last one stays there",
            three, foundAgain("c"), "entry 2 3 = 1", built("d"), foundAgain("b"), foundAgain("c"), built("a"));
        Script.edge("one that is USED goes to its end: the only one",
            COPYING, built("a"), foundAgain("a"), foundAgain("a"), "entry 0 3 = 2; count 3 = 1; count 4 = 17; entry 1 3 = LEAST");
        Script.edge("a new one stands at the end",
            three, "put 0 1 'c'; key 0 0; entry 2 1 = 17; remove 0 1; build 0 NONE = 1; entry 2 2 = 1; entry 2 1 = 16",
            "count 3 = 3; count 4 = 50; count 9 = 1");
        Script.edge("to ask is no USE",
            three, "put 0 1 'a'; key 0 0; changed 0 0 = 10; isClean 0 = 0; entry 0 0; entry 0 3 = 0; remove 0 1; build 0 NONE = 1",
            "count 9 = 1", built("a"));
    }

    private static void hundred() {
        String ninetyNine = "capacity 4000\n" + FORTY
            + "path 0 2 file = 2; output 0 2; build 0 NONE = 40; write 0 1; build 0 NONE = 40; count 3 = 80\n"
            + Script.range("feed # 1; write 0 1; build 0 2 = 1", 1, 19);
        Script.edge("ENTRIES, 100 at most: 99",
            ninetyNine, "count 3 = 99; count 9 = 0; count 4 = 1584; entry 98 1 = 16; entry 99 1 ~ LEAST");
        Script.edge("ENTRIES, 100 at most: 100",
            ninetyNine, "put 0 1 'a'; build 0 2 = 1; count 3 = 100; count 9 = 0; count 4 = 1600; entry 99 1 = 16",
            "entry 100 1 ~ LEAST; remove 0 1; build 0 2 = 0; count 3 = 100; count 9 = 0");
        Script.edge("ENTRIES, 100 at most: the first one goes for the 101st",
            ninetyNine, "put 0 1 'a'; build 0 2 = 1; put 0 1 'b'; build 0 2 = 1; count 3 = 100; count 9 = 1; count 4 = 1600",
            "entry 100 1 = LEAST; remove 0 1; build 0 2 = 1; count 9 = 2; count 3 = 100");
        Script.edge("ENTRIES, 100 at most: one that was USED stays",
            ninetyNine, "put 0 1 'a'; build 0 2 = 1; remove 0 1; build 0 2 = 0; put 0 1 'b'; build 0 2 = 1; count 9 = 1",
            "remove 0 1; build 0 2 = 0; entry 99 3 = 2; count 3 = 100");
        Script.edge("ENTRIES, 100 at most: to ask for a CAPACITY with room for all EVICTS none",
            ninetyNine, "put 0 1 'a'; build 0 2 = 1; capacity 1600 = 0; count 3 = 100; capacity 1599 = 1; count 3 = 99",
            "put 0 1 'b'; build 0 2 = 1; count 3 = 99; count 9 = 2");
    }

    private static void entry() {
        String one = COPYING + built("abc");
        Script.edge("entry: The least long: BAD",
            one, foundAgain("abc"), Script.each("entry # 0 ~ LEAST", LEAST, -2, -1, 1, 2, 99, 100, MOST),
            Script.each("entry 0 # ~ LEAST", LEAST, -1, 5, 6, MOST), "entry 0 1 ~ 19; entry 0 2 ~ 0; entry 0 3 ~ 1; entry 0 4 ~ 1");
        // A CONTENT that was looked for so that the KEY's SIGN is the least long.
        Script.edge("entry: The least long: BAD (a SIGN may be it)",
            COPYING, "feed 0x3060ec0fdfe3febe 8; feed 6 1; write 0 1 = 9; key 0 0 ~ LEAST; build 0 2 = 1; entry 0 0 ~ LEAST",
            "entry 0 1 = 25; entry 0 3 = 0; build 0 2 = 0; entry 0 3 = 1; entry 1 1 = LEAST; count 3 = 1", built("a"),
            "entry 1 1 = 17; forget = 2");
        Script.edge("entry: where there is none", "entry 0 0 ~ LEAST", Script.range("entry 0 # = LEAST", 1, 4));
    }

    private static void entryNumbers() {
        Script.edge("failure: each one",
            COPYING, "path 0 3 dir; input 0 3; build 0 NONE = 1; entry 0 2 = 1; fill 0 1 64 97; erase 0; input 0 1",
            "steps 0 0:0 1:0; build 0 NONE = 1; entry 1 2 = 2; erase 0; steps 0 0:0; build 0 NONE = 1; entry 2 2 = 3; erase 0",
            "input 0 3; steps 0 0:0; build 0 NONE = 1; entry 3 2 = 4; erase 0; steps 0 11:0; build 0 NONE = 1; entry 4 2 = 5",
            "count 4 = 80");
        Script.edge("how often it was FOUND",
            COPYING, built("a"), "entry 0 3 = 0", foundAgain("a"), "entry 0 3 = 1; action; input 1 1; path 0 3 file; output 1 3",
            "steps 1 0:0 3:0; build 0 NONE = 0; entry 0 3 = 3; count 8 = 3; copy 1 = 1; build 1 3 = 0; entry 0 3 = 4");
        Script.edge("how often it was FOUND: anew behind an EVICTION",
            COPYING, built("a"), foundAgain("a"), "capacity 0 = 1; capacity 1000 = 0", built("a"), "entry 0 3 = 0",
            foundAgain("a"), "entry 0 3 = 1");
        Script.edge("how many OUTPUTS: 0 .. 3, with a failure, too",
            Script.range("path 0 # file", 1, 3), "action; build 0 NONE; entry 0 4 = 0; output 0 1; build 0 NONE; entry 1 4 = 1",
            "output 0 2; build 0 NONE; entry 2 4 = 2; output 0 3; build 0 NONE; entry 3 4 = 3; step 0 11 0; build 0 NONE",
            "entry 4 4 = 3; entry 4 1 = 16; entry 4 2 = 5; erase 0; entry 4 4 = 3");
    }

    private static void forget() {
        Script.edge("forget: none", COPYING, "forget ~ 0; count 9 = 0");
        Script.edge("forget: how many, and they are not EVICTED",
            COPYING, built("a"), built("bb"), "forget = 2; count 3 = 0; count 4 = 0; count 9 = 0; entry 0 0 = LEAST; forget ~ 0",
            "count 5 = 1000; count 7 = 2; count 10 = 2; count 6 = 1; done 0 1 = 1", built("a"), "count 4 = 17");
        Script.edge("forget: what was MADE stays",
            COPYING, built("a"), "forget = 1; holds 0 2 'a'; isClean 0 = 1; changed 0 0 = 0; build 0 NONE = 1; done 0 3 = 0",
            "entry 0 3 = 0");
        Script.edge("forget: there is room for all again",
            COPYING, "capacity 34 = 0", built("a"), built("b"), "forget = 2", built("c"), built("d"), "count 3 = 2; count 9 = 0",
            foundAgain("c"));
        Script.edge("forget: 100",
            "capacity 4000\n", FORTY, "build 0 NONE = 40; write 0 1; build 0 NONE = 40; put 0 1 'a'; build 0 NONE = 40",
            "count 3 = 100; forget = 100; count 3 = 0; count 9 = 20; build 0 NONE = 40; count 3 = 40");
    }

    private static void counts() {
        Script.edge("count: of a run",
            COPYING, "count 0 = 3; count 1 = 1", built("a"), foundAgain("a"), "capacity 16 = 1; build 1 NONE = 1; build 1 0 = 0",
            "build 1 1 = 0; feed 1 3 = 3; count 0 ~ 3; count 1 ~ 1; count 2 ~ 3; count 3 ~ 1; count 4 ~ 16; count 5 ~ 16",
            "count 6 ~ 0; count 7 ~ 2; count 8 ~ 2; count 9 ~ 1; count 10 ~ 5");
        Script.edge("how many were DONE by the latest BUILD: none, one, 40",
            FORTY, "count 6 = 0; build 0 NONE = 40; count 6 = 40; build 0 1 = 0; count 6 = 0; build 0 NONE = 0; count 6 = 40",
            "count 8 = 40; count 10 = 3");
        Script.edge("of all: a refused BUILD is none",
            COPYING, "build 2 NONE ! BAD; build 0 3 ! BAD; count 10 = 0; count 7 = 0; build 0 NONE = 1; count 10 = 1");
    }

    private static void countBounds() {
        Script.edge("count: BAD", COPYING, Script.each("count # ! BAD", LEAST, -2, -1, 11, 12, MOST), "count 10 ~ 0; count 0 ~ 3");
    }

    private static void clear() {
        String much = COPYING + "path 0 3 dir; path 3 1 file; input 0 3; action; input 1 2\n"
            + "put 0 1 'a'; build 0 NONE = 2; build 0 NONE = 0\n"
            + "capacity 40 = 0; build 1 NONE = 2; build 0 2 = 1; feed 1 8 = 8\n";
        Script.edge("All is as at first: 1",
            much, "clear = 1", Script.each("count # ~ 0", 1, 2, 3, 4, 6, 7, 8, 9, 10), "count 0 ~ 1; count 5 ~ 1000",
            "done 0 0 ! BAD; entry 0 0 ~ LEAST; of 1 0 ! BAD; of 0 2 ~ 1; of 0 0 ~ NONE; of 0 1 ~ 0; of 0 3 ~ NONE",
            "about 0 0 ! BAD; length 0 1 ! BAD; key 0 0 ~ 0; isClean 0 ~ 1; clear ~ 1");
        Script.edge("clear of what is as at first", "clear ~ 1; count 0 = 1");
    }

    private static void clearAgain() {
        Script.edge("All is as at first: what comes then knows nothing of before",
            COPYING, built("a"), "build 1 NONE = 1; clear = 1", COPYING, "holds 0 1 absent; holds 1 1 absent; holds 0 2 absent",
            "changed 0 0 = NONE; changed 1 0 = NONE; about 0 0 = 1; about 0 2 = 2; isClean 0 = 1", built("a"), "done 0 3 = NONE",
            "entry 0 3 = 0; count 3 = 1; count 7 = 1; count 9 = 0");
        Script.edge("All is as at first: 60 PATHS, 40 ACTIONS have room again",
            "path 0 1 dir", Script.range("path 1 # file", 1, 26), "path 0 2 dir", Script.range("path 28 # file", 1, 26),
            Script.range("path 0 # file", 3, 7), "path 0 8 file ! FULL; clear = 1; path 0 8 file = 1; path 1 1 file ! KIND",
            Script.range("action = #", 0, 39), "action ! FULL; clear = 1; action = 0; output 0 0 ! KIND; input 0 1 ! BAD");
    }
}
