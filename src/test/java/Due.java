/** What every test of the project uses: it counts answers, prints each one that is not due, and ends the run. */
final class Due {
    private static int right = 0;
    private static int wrong = 0;

    private Due() {
    }

    static void is(String call, long got, long want) {
        if (got == want) {
            right++;
            return;
        }
        wrong++;
        System.out.println(call + " answered " + got + ", due is " + want);
    }

    static boolean isAllRight() {
        return wrong == 0;
    }

    static void end(String test) {
        System.out.println(test + ": " + right + " answers as due, " + wrong + " not");
        if (wrong != 0) System.exit(1);
    }

    /** Puts a text behind THE TAPE, eight bytes at a time. */
    static void feed(BuildCache x, String text) {
        for (int i = 0; i < text.length(); i += 8) {
            int n = Math.min(8, text.length() - i);
            long w = 0;
            for (int k = 0; k < n; k++) w = w << 8 | text.charAt(i + k);
            x.feed(w, n);
        }
    }

    static void write(BuildCache x, int space, int path, String text) {
        feed(x, text);
        is("write " + text, x.write(space, path), text.length());
    }

    /** The CONTENT of a FILE is this text; null: it is ABSENT. */
    static void holds(BuildCache x, int space, int path, String text) {
        String call = "length(" + space + ", " + path + ")";
        is(call, x.length(space, path), text == null ? BuildCache.NONE : text.length());
        if (text == null) return;
        for (int i = 0; i < text.length(); i++) {
            is("byteAt(" + space + ", " + path + ", " + i + ")", x.byteAt(space, path, i), text.charAt(i));
        }
    }

    static String times(String text, int n) {
        return text.repeat(n);
    }
}
