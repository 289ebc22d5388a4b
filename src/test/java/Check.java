/** What the tests share: counting answers that are not due, and telling a TEXT byte by byte. */
final class Check {
    private static int wrong = 0;
    private static int asked = 0;

    private Check() {
    }

    static void due(String call, long got, long want) {
        asked++;
        if (got != want) {
            wrong++;
            System.out.println(call + " answered " + got + ", due is " + want);
        }
    }

    static void due(String call, boolean got, boolean want) {
        due(call, got ? 1 : 0, want ? 1 : 0);
    }

    /** Puts the signs (0 .. 255) on the tape, instead of what is there. */
    static void tape(ThumbHedges x, String signs) {
        x.end(0);
        for (int i = 0; i < signs.length(); i += 20) {
            x.feed(four(signs, i), four(signs, i + 4), four(signs, i + 8), four(signs, i + 12), four(signs, i + 16));
        }
        x.end(signs.length());
    }

    private static int four(String signs, int from) {
        int value = 0;
        for (int i = from; i < from + 4; i++) {
            value = value << 8 | (i < signs.length() ? signs.charAt(i) : 0);
        }
        return value;
    }

    static int text(ThumbHedges x, String signs) {
        tape(x, signs);
        return x.text();
    }

    /** Reads a TEXT that must have this FAULT there (0: none). */
    static void fault(String signs, int fault, int place) {
        ThumbHedges x = new ThumbHedges();
        due("text of '" + signs + "'", text(x, signs), fault == 0 ? 0 : -1);
        due("fault(0) of '" + signs + "'", x.fault(0), fault);
        due("fault(1) of '" + signs + "'", x.fault(1), place);
    }

    /** Ends the test: with exit code 1 if an answer was not due. */
    static void end(String name) {
        System.out.println(name + ": " + asked + " answers, " + wrong + " not as due");
        if (wrong != 0) {
            System.exit(1);
        }
    }
}
