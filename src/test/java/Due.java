/** What the tests share: a count of wrong answers, and towns told by a text. */
final class Due {
    static final int NONE = LaceLines.NONE, UNKNOWN = LaceLines.UNKNOWN, OUTSIDE = LaceLines.OUTSIDE,
        NOT = LaceLines.NOT, FULL = LaceLines.FULL;

    private static int wrong = 0;
    private static int asked = 0;

    private Due() { }

    static void is(String what, long got, long want) {
        asked++;
        if (got != want) {
            wrong++;
            System.out.println(what + " answered " + got + ", due is " + want);
        }
    }

    /** Asserts a whole row of answers. */
    static void are(String what, int[] got, int... want) {
        is(what + ": how many", got.length, want.length);
        for (int i = 0; i < Math.min(got.length, want.length); i++) {
            is(what + "[" + i + "]", got[i], want[i]);
        }
    }

    static void end() {
        System.out.println(asked + " answers, " + wrong + " wrong");
        if (wrong != 0 || asked == 0) {
            System.exit(1);
        }
    }

    static void feed(LaceLines x, String text) {
        for (int i = 0; i < text.length(); i++) {
            x.feed(text.charAt(i));
        }
    }

    static int tell(LaceLines x, String text) {
        feed(x, text);
        return x.town();
    }

    static LaceLines town(String text) {
        LaceLines x = new LaceLines();
        if (tell(x, text) < 0) {
            throw new IllegalStateException("a test's own text has a fault: " + text);
        }
        return x;
    }

    /** All that can be asked without changing anything: to see that a refusal changed nothing. */
    static int[] all(LaceLines x) {
        int[] row = new int[13 + 6 * 4 + 8 * 6 + 6];
        int at = 0;
        for (int what = 0; what < 13; what++) {
            row[at++] = x.told(what);
        }
        for (int m = 0; m < 6; m++) {
            for (int what = 0; what < 4; what++) {
                row[at++] = x.maker(m, what);
            }
        }
        for (int c = 0; c < 8; c++) {
            for (int what = 0; what < 6; what++) {
                row[at++] = x.crossing(c, what);
            }
        }
        row[at++] = x.fault();
        row[at++] = x.wentWrong(NONE);
        row[at++] = x.sure();
        row[at++] = x.judge();
        row[at++] = x.soonest(NONE);
        row[at++] = x.strange(NONE);
        return row;
    }

    /** The refusal is as due, and all is as it was. */
    static void refused(String what, LaceLines x, int[] before, int got, int want) {
        is(what, got, want);
        are(what + " changes nothing", all(x), before);
    }
}
