/** Boundary cases of section 2 (pins, ears, bills, minutes), of draws and steps, and of promises 8 to 13, sentence by sentence. */
public final class CallsEdgesTest {
    private static final String THREE = "'e1 7;m0;m0;m0;x0 1 5 9;x1 2 1 9;'";
    private static final String PAIR = "'e1 7;m0;m0;x0 1 2 9;'";
    private static final String EIGHT = "'e3 1;m0;m0;m0;m0;m0;m0;x0 1 2 9;x2 3 2 9;x4 5 2 9;x0 2 2 9;x1 3 2 9;x0 4 2 9;x1 5 2 9;x3 5 2 9;'";

    public static void main(String[] args) {
        ownThreads();
        ringUnknown();
        ringAgain();
        ringBehind();
        ringInCall();
        ringNoLine();
        lengthOfCall();
        deafAndMirrored();
        round();
        bills();
        hangUp();
        minuteBounds();
        lastCall();
        overTogether();
        wrongNumberUnknown();
        wrongNumberInCall();
        driftBounds();
        driftDraws();
        draws();
        undoBounds();
        undoNotSoMany();
        thirtyKept();
        whatIsUndone();
        whatIsNoStep();
        sinceTextOrImage();
        Due.end();
    }

    /** Section 2: the thread that she has: her own number at first. MINUTES are counted from 0. */
    private static void ownThreads() {
        Edge.run("own threads", EIGHT + "|maker 0 1 = 0|maker 1 1 = 1|maker 4 1 = 4|maker 5 1 = 5|told 5 = 0|told 9 = 0");
        Edge.run("her own number, not what was before", "'e1 0;m0;m0;'|wrongNumber 0 1 = 1|'e1 0;m0;m0;' = 2|maker 0 1 = 0|maker 1 1 = 1");
    }

    /** Promise 8: UNKNOWN. */
    private static void ringUnknown() {
        Edge.each("ring", THREE, "ring -1 = UNKNOWN", "ring 2 = UNKNOWN", "ring 8 = UNKNOWN", "ring 31 = UNKNOWN", "ring 32 = UNKNOWN",
            "ring MIN = UNKNOWN", "ring MAX = UNKNOWN", "ring 0 = 5", "ring 1 = 1");
        Edge.each("ring of eight", EIGHT, "ring 7 = 2", "ring 8 = UNKNOWN");
        Edge.run("UNKNOWN, with no line free, too", THREE + "|ring 0 = 5|ring 2 = UNKNOWN");
        Edge.run("ring without crossings", "'e1 0;m0;m0;'|ring 0 = UNKNOWN");
    }

    /** Section 2: It can be RUNG, if it is OPEN; promise 8: NOT. */
    private static void ringAgain() {
        Edge.run("RUNG", PAIR + "|ring 0 = 2|ring 0 = NOT|minute 1 = 0|ring 0 = NOT|minute 1 = 1|ring 0 = NOT|minute 60 = 1|ring 0 = NOT");
        Edge.run("OPEN again", PAIR + "|ring 0 = 2|minute 1 = 0|hangUp 0 = 1|ring 0 = 3|ring 0 = NOT");
        Edge.run("OPEN again, undone", PAIR + "|ring 0 = 2|undo 1 = 0|ring 0 = 2|minute 2 = 1|ring 0 = NOT|undo 3 = 0|ring 0 = 2");
    }

    /** Section 2: its P is DONE (or none). */
    private static void ringBehind() {
        String town = "'e3 0;m0;m0;m0;m0;x0 1 2 9;x2 3 1 0;x0 1 1 1;'";
        Edge.run("P OPEN, RUNG, DONE", town + "|ring 1 = NOT|ring 0 = 2|ring 1 = NOT|minute 1 = 0|ring 1 = NOT|minute 1 = 1|ring 1 = 3");
        Edge.run("P HUNG UP", town + "|ring 0 = 2|minute 1 = 0|hangUp 0 = 1|ring 1 = NOT");
        Edge.run("P not DONE any more", town + "|ring 0 = 2|minute 2 = 1|undo 1 = 1|ring 1 = NOT");
        Edge.run("the P of P is not enough", town + "|ring 0 = 2|minute 2 = 1|ring 2 = NOT|ring 1 = 3|ring 2 = NOT|minute 1 = 3|ring 2 = 4");
    }

    /** Section 2: neither MAKER is in a call. */
    private static void ringInCall() {
        String town = "'e3 0;m0;m0;m0;m0;x0 1 2 9;x0 2 1 9;x2 0 1 9;x1 2 1 9;x2 1 1 9;x2 3 1 9;x1 0 1 9;'";
        Edge.run("A or B in a call, as A or as B", town + "|ring 0 = 2|ring 1 = NOT|ring 2 = NOT|ring 3 = NOT|ring 4 = NOT|ring 6 = NOT|ring 5 = 1");
        Edge.run("in no call from the minute on in which it is DONE", town + "|ring 0 = 2|minute 1 = 0|ring 1 = NOT|minute 1 = 1|ring 1 = 3");
        Edge.run("in no call from hanging up on", town + "|ring 0 = 2|minute 1 = 0|hangUp 0 = 1|ring 4 = 2");
    }

    /** Section 2: a LINE is free (1 .. 3 of them). */
    private static void ringNoLine() {
        String tail = " 0;m0;m0;m0;m0;m0;m0;x0 1 2 9;x2 3 3 9;x4 5 4 9;'";
        Edge.run("one line", "'e1" + tail + "|ring 0 = 2|ring 1 = NOT|ring 2 = NOT|minute 1 = 0|ring 1 = NOT|minute 1 = 1|ring 1 = 5|ring 2 = NOT");
        Edge.run("two lines", "'e2" + tail + "|ring 0 = 2|ring 1 = 3|ring 2 = NOT|minute 2 = 1|ring 2 = 6");
        Edge.run("three lines", "'e3" + tail + "|ring 0 = 2|ring 1 = 3|ring 2 = 4");
        Edge.run("a line is free when one hangs up", "'e1" + tail + "|ring 0 = 2|hangUp 0 = 0|ring 1 = 3");
        Edge.run("a line is taken again when that is undone", "'e1" + tail + "|ring 0 = 2|hangUp 0 = 0|undo 1 = 0|ring 1 = NOT");
    }

    /** Section 2: It is DONE, T minutes behind (1 .. 20); promise 8: the minute in which it is DONE. */
    private static void lengthOfCall() {
        Edge.run("T 1", "'e1 0;m0;m0;x0 1 1 9;'|ring 0 = 1|told 8 = 0|minute 1 = 1|maker 0 1 = 1");
        Edge.run("T 20", "'e1 0;m0;m0;x0 1 20 9;'|ring 0 = 20|minute 19 = 0|maker 0 1 = 0|crossing 0 4 = 1|minute 1 = 1|maker 0 1 = 1|crossing 0 4 = 2");
        Edge.run("T 20 within 60", "'e1 0;m0;m0;x0 1 20 9;'|ring 0 = 20|minute 60 = 1|crossing 0 5 = 20|told 5 = 60");
        Edge.run("from a later minute", "'e1 0;m0;m0;x0 1 20 9;'|minute 60 = 0|ring 0 = 80|minute 19 = 0|minute 1 = 1");
        Edge.run("changed once only", "'e1 0;m0;m0;x0 1 1 9;'|ring 0 = 1|minute 60 = 1|maker 0 1 = 1|maker 1 1 = 0|minute 60 = 1|maker 0 1 = 1");
    }

    private static void threads(String makers, String call, int... due) {
        StringBuilder story = new StringBuilder("'e1 0;" + makers + call + "'|ring 0|minute 1 = 1");
        for (int m = 0; m < due.length; m++) {
            story.append("|maker " + m + " 1 = " + due[m]);
        }
        Edge.run("threads", story.toString());
    }

    /** Section 2: if one of both is deaf, they do not; if one is mirrored (none deaf), A changes with the MAKER behind B. */
    private static void deafAndMirrored() {
        threads("m0;m0;m0;m0;", "x0 1 1 9;", 1, 0, 2, 3);
        threads("m1;m0;m0;m0;", "x0 1 1 9;", 0, 1, 2, 3);
        threads("m0;m1;m0;m0;", "x0 1 1 9;", 0, 1, 2, 3);
        threads("m1;m1;m0;m0;", "x0 1 1 9;", 0, 1, 2, 3);
        threads("m1;m2;m0;m0;", "x0 1 1 9;", 0, 1, 2, 3);
        threads("m2;m1;m0;m0;", "x0 1 1 9;", 0, 1, 2, 3);
        threads("m2;m0;m0;m0;", "x0 1 1 9;", 2, 1, 0, 3);
        threads("m0;m2;m0;m0;", "x0 1 1 9;", 2, 1, 0, 3);
        threads("m2;m2;m0;m0;", "x0 1 1 9;", 2, 1, 0, 3);
        // the ears of others do not matter, of the MAKER behind B neither
        threads("m0;m0;m1;m2;", "x0 1 1 9;", 1, 0, 2, 3);
        threads("m0;m2;m1;m0;", "x0 1 1 9;", 2, 1, 0, 3);
    }

    /** Section 2: the MAKER behind B (round; if that is A: nothing). */
    private static void round() {
        threads("m0;m0;m0;m0;m0;m2;", "x1 5 1 9;", 1, 0, 2, 3, 4, 5);
        threads("m0;m0;m0;m0;m0;m2;", "x0 5 1 9;", 0, 1, 2, 3, 4, 5);
        threads("m0;m0;m0;m0;m0;m2;", "x5 4 1 9;", 0, 1, 2, 3, 4, 5);
        threads("m0;m0;m0;m0;m0;m2;", "x5 3 1 9;", 0, 1, 2, 3, 5, 4);
        threads("m2;m0;m0;", "x1 2 1 9;", 0, 2, 1);
        threads("m0;m0;m2;", "x1 2 1 9;", 1, 0, 2);
        threads("m2;m0;m0;", "x1 0 1 9;", 0, 1, 2);
        threads("m2;m0;", "x0 1 1 9;", 0, 1);
        threads("m2;m0;", "x1 0 1 9;", 0, 1);
        // round is by all that are told in the end
        threads("m2;m0;", "x0 1 1 9;m0;", 2, 1, 0);
    }

    /** Section 2: each of both pays C for each minute (when it is DONE, T times; hung up: for those that went by). */
    private static void bills() {
        Edge.run("C 0", "'e1 0;m0;m0;x0 1 20 9;'|ring 0 = 20|minute 20 = 1|told 9 = 0|maker 0 2 = 0");
        Edge.run("C 99, T 20", "'e1 99;m0;m0;m0;x0 2 20 9;'|ring 0 = 20|minute 19 = 0|told 9 = 0|minute 1 = 1|told 9 = 3960|maker 0 2 = 1980"
            + "|maker 1 2 = 0|maker 2 2 = 1980|minute 60 = 1|told 9 = 3960");
        Edge.run("nothing ahead of its end", "'e1 5;m0;m0;x0 1 3 9;'|ring 0|minute 2|maker 0 2 = 0|maker 1 2 = 0|told 9 = 0|share 0 = 0|minute 1|maker 0 2 = 15");
        Edge.run("hung up at once", "'e1 99;m0;m0;x0 1 20 9;'|ring 0 = 20|hangUp 0 = 0|told 9 = 0");
        Edge.run("hung up at the last minute", "'e1 99;m0;m0;x0 1 20 9;'|ring 0 = 20|minute 19 = 0|hangUp 0 = 19|told 9 = 3762|maker 1 2 = 1881"
            + "|ring 0 = 39|minute 20 = 1|told 9 = 7722");
        Edge.run("the deaf and the mirrored pay, not the MAKER behind B", "'e2 3;m1;m0;m2;m0;m0;x0 1 2 9;x2 3 1 9;'|ring 0 = 2|ring 1 = 1|minute 2 = 3"
            + "|maker 0 2 = 6|maker 1 2 = 6|maker 2 2 = 3|maker 3 2 = 3|maker 4 2 = 0");
        Edge.run("wrong numbers cost nothing", "'e1 99;m0;m0;'|wrongNumber 0 1 = 1|minute 60 = 0|told 9 = 0");
    }

    /** Promise 9: HUNG UP: minutes that went by. UNKNOWN, NOT: it is not RUNG. */
    private static void hangUp() {
        Edge.each("hangUp", THREE + "|ring 0", "hangUp -1 = UNKNOWN", "hangUp 2 = UNKNOWN", "hangUp 8 = UNKNOWN", "hangUp MIN = UNKNOWN",
            "hangUp MAX = UNKNOWN", "hangUp 1 = NOT", "hangUp 0 = 0");
        Edge.run("OPEN, RUNG, HUNG UP, DONE", PAIR + "|hangUp 0 = NOT|ring 0 = 2|minute 1 = 0|hangUp 0 = 1|hangUp 0 = NOT|ring 0 = 3|minute 1 = 0"
            + "|minute 1 = 1|hangUp 0 = NOT|minute 1 = 1|hangUp 0 = NOT");
        Edge.run("threads stay", PAIR + "|ring 0 = 2|minute 1 = 0|hangUp 0 = 1|maker 0 1 = 0|minute 60 = 0|maker 0 1 = 0|told 8 = 0");
        Edge.run("19 of 20 went by", "'e1 1;m0;m0;x0 1 20 9;'|minute 60 = 0|ring 0 = 80|minute 19 = 0|hangUp 0 = 19|crossing 0 4 = 0");
        Edge.run("those that went by this time only", "'e1 1;m0;m0;x0 1 20 9;'|ring 0 = 20|minute 5 = 0|hangUp 0 = 5|minute 3 = 0|ring 0 = 28"
            + "|minute 2 = 0|hangUp 0 = 2|told 9 = 14");
    }

    /** Promise 10: n MINUTES (1 .. 60). OUTSIDE, NOT: no EXCHANGE (FULL lies beyond 512 calls: CallsTest). */
    private static void minuteBounds() {
        Edge.each("minute", PAIR + "|ring 0", "minute 0 = OUTSIDE", "minute -1 = OUTSIDE", "minute 61 = OUTSIDE", "minute MIN = OUTSIDE",
            "minute MAX = OUTSIDE", "minute 1 = 0", "minute 2 = 1", "minute 60 = 1");
        Edge.each("OUTSIDE ahead of NOT", "", "minute 0 = OUTSIDE", "minute 61 = OUTSIDE", "minute 1 = NOT", "minute 60 = NOT");
        Edge.run("1 and 60", PAIR + "|minute 1 = 0|told 5 = 1|minute 60 = 0|told 5 = 61|told 12 = 30");
        Edge.run("an EXCHANGE alone", "'e1 0;'|minute 1 = 0|told 5 = 1|minute 60 = 0|told 5 = 61");
        Edge.run("an EXCHANGE no more", "'e1 0;'|minute 1 = 0|town = 0|minute 1 = NOT");
        Edge.run("far from FULL", "'e1 0;'|100*minute 60 = 0|told 5 = 6000|drift 60 = 0|told 5 = 6060");
        Edge.alike("n MINUTES are n times one", EIGHT + "|ring 0|ring 1|minute 3", EIGHT + "|ring 0|ring 1|minute 1|minute 1|minute 1");
        Edge.run("all that are DONE, not the new ones alone", EIGHT + "|ring 0 = 2|minute 2 = 1|ring 2 = 4|minute 1 = 1|minute 1 = 5");
    }

    /** What it is: at most 512 calls: the last of them is answered as the others are, and no FULL comes ahead of it. */
    private static void lastCall() {
        LaceLines x = Due.town("e1 0;");
        for (int i = 0; i < 505; i++) {
            Due.is("minute 60", x.minute(60), 0);
        }
        Due.is("the 512th call", x.told(5), 30300);
    }

    /** Section 2: CROSSINGS that are over are DONE, rising. */
    private static void overTogether() {
        // 0 with the mirrored 1 is 0 with 2: 2 1 0 3; then 2 with 3: 2 1 3 0. The other way round: 3 1 0 2.
        Edge.run("0 rung ahead of 1", "'e2 0;m0;m2;m0;m0;x0 1 2 9;x2 3 1 9;'|ring 0 = 2|minute 1 = 0|ring 1 = 2|minute 1 = 3"
            + "|maker 0 1 = 2|maker 1 1 = 1|maker 2 1 = 3|maker 3 1 = 0");
        Edge.run("1 rung ahead of 0", "'e2 0;m0;m2;m0;m0;x0 1 1 9;x2 3 2 9;'|ring 1 = 2|minute 1 = 0|ring 0 = 2|minute 1 = 3"
            + "|maker 0 1 = 2|maker 1 1 = 1|maker 2 1 = 3|maker 3 1 = 0");
        Edge.run("one is over ahead of the other", "'e2 0;m0;m2;m0;m0;x0 1 2 9;x2 3 1 9;'|ring 0 = 2|ring 1 = 1|minute 2 = 3"
            + "|maker 0 1 = 3|maker 1 1 = 1|maker 2 1 = 0|maker 3 1 = 2");
        Edge.run("three over at once", EIGHT + "|ring 2 = 2|ring 0 = 2|ring 1 = 2|minute 2 = 7|told 9 = 12|maker 0 1 = 1|maker 5 1 = 4");
    }

    /** Promise 11: UNKNOWN (a MAKER that there is not; one twice). */
    private static void wrongNumberUnknown() {
        Edge.each("wrongNumber", THREE, "wrongNumber -1 0 = UNKNOWN", "wrongNumber 0 -1 = UNKNOWN", "wrongNumber 3 0 = UNKNOWN",
            "wrongNumber 0 3 = UNKNOWN", "wrongNumber 6 7 = UNKNOWN", "wrongNumber MIN 0 = UNKNOWN", "wrongNumber 0 MAX = UNKNOWN",
            "wrongNumber 0 0 = UNKNOWN", "wrongNumber 2 2 = UNKNOWN", "wrongNumber 3 3 = UNKNOWN", "wrongNumber -1 -1 = UNKNOWN",
            "wrongNumber 0 2 = 2", "wrongNumber 2 0 = 0", "wrongNumber 1 2 = 2");
        Edge.each("of one MAKER alone", "'e1 0;m0;'", "wrongNumber 0 0 = UNKNOWN", "wrongNumber 0 1 = UNKNOWN");
        Edge.each("of six", EIGHT, "wrongNumber 0 5 = 5", "wrongNumber 5 0 = 0", "wrongNumber 5 6 = UNKNOWN");
        Edge.run("the thread that the first one has then", THREE + "|wrongNumber 0 1 = 1|wrongNumber 1 2 = 2|wrongNumber 2 0 = 1"
            + "|maker 0 1 = 0|maker 1 1 = 2|maker 2 1 = 1");
        Edge.run("ears do not matter", "'e1 0;m1;m2;'|wrongNumber 0 1 = 1|wrongNumber 1 0 = 1");
    }

    /** Promise 11: NOT: one is in a call; UNKNOWN ahead of it. */
    private static void wrongNumberInCall() {
        Edge.each("one is in a call", THREE + "|ring 0|minute 4", "wrongNumber 0 1 = NOT", "wrongNumber 1 0 = NOT", "wrongNumber 0 2 = NOT",
            "wrongNumber 2 0 = NOT", "wrongNumber 1 2 = NOT", "wrongNumber 2 1 = NOT", "wrongNumber 0 0 = UNKNOWN",
            "wrongNumber 0 3 = UNKNOWN", "wrongNumber 3 1 = UNKNOWN");
        Edge.run("DONE: in none", THREE + "|ring 0 = 5|minute 5 = 1|wrongNumber 0 2 = 2");
        Edge.run("HUNG UP: in none", THREE + "|ring 0 = 5|hangUp 0 = 0|wrongNumber 0 2 = 2");
        Edge.run("it needs no LINE", "'e1 7;m0;m0;m0;m0;x0 1 5 9;'|ring 0 = 5|wrongNumber 2 3 = 3|told 7 = 1|minute 5 = 1|told 9 = 70|maker 3 1 = 2");
        Edge.run("others may", EIGHT + "|ring 0 = 2|ring 1 = 2|wrongNumber 4 5 = 5|wrongNumber 3 4 = NOT");
    }

    /** Promise 12: n MINUTES BY DRAWS (1 .. 60). OUTSIDE, NOT: no EXCHANGE. */
    private static void driftBounds() {
        Edge.each("drift", PAIR + "|seed 99", "drift 0 = OUTSIDE", "drift -1 = OUTSIDE", "drift 61 = OUTSIDE", "drift MIN = OUTSIDE",
            "drift MAX = OUTSIDE");
        Edge.each("OUTSIDE ahead of NOT", "seed 99", "drift 0 = OUTSIDE", "drift 61 = OUTSIDE", "drift 1 = NOT", "drift 60 = NOT");
        Edge.run("1 and 60", PAIR + "|drift 1|told 5 = 1|drift 60 = 1|told 5 = 61");
        Edge.run("without CROSSINGS a DRAW of one", "'e1 0;'|drift 1 = 0|seed 0 = 12345|told 12 = 1|told 5 = 1");
        Edge.alike("n MINUTES are n times one", EIGHT + "|drift 20", EIGHT + "|20*drift 1");
    }

    /** Section 3: ahead of each a DRAW of CROSSINGS and one: that one is RUNG, if it can be; the last number: none. */
    private static void driftDraws() {
        // 0 becomes 12345: / 65536 is 0, so 0 is RUNG; then 1406932606: / 65536 is 21468, even
        Edge.run("RUNG ahead of the minute", "'e1 0;m0;m0;x0 1 1 9;'|drift 1 = 1|told 12 = 2|seed 0 = 12345");
        Edge.run("what is RUNG cannot be", PAIR + "|drift 1 = 0|told 7 = 1|told 12 = 2|drift 1 = 1|told 12 = 3|seed 0 = 1406932606");
        Edge.run("what is DONE cannot be", "'e1 0;m0;m0;x0 1 1 9;'|drift 1 = 1|drift 1 = 1|told 12 = 3|crossing 0 5 = 1");
        int[] drawn = new int[9];
        for (int v = 0; v < 200; v++) {
            long next = (v * 9999991L * 1103515245L + 12345L) % 2147483648L;
            int draw = (int) (next / 65536 % 9);
            drawn[draw]++;
            int ofThree = (int) (next / 65536 % 3);
            Edge.run("no LINE is free", "'e1 0;m0;m0;m0;m0;x0 1 9 9;x2 3 9 9;'|seed " + v * 9999991L
                + "|ring 0 = 9|drift 1 = 0|told 7 = 1|told 12 = 2|seed 0 = " + next);
            Edge.run("a P that is OPEN", "'e3 0;m0;m0;m0;m0;x0 1 9 9;x2 3 9 0;'|seed " + v * 9999991L
                + "|drift 1 = 0|told 7 = " + (ofThree == 0 ? 1 : 0) + "|told 12 = " + (ofThree == 0 ? 2 : 1));
            Edge.run("a DRAW of nine", EIGHT + "|seed " + v * 9999991L + "|drift 1 = 0|told 7 = " + (draw < 8 ? 1 << draw : 0)
                + "|told 12 = " + (draw < 8 ? 2 : 1) + "|seed 0 = " + next);
        }
        for (int draw = 0; draw < 9; draw++) {
            Due.is("drawn at least once: " + draw, Math.min(drawn[draw], 1), 1);
        }
    }

    /** Section 3: THE SEED becomes it times 1103515245 and 12345, left over by 2 to the 31: wrap-around. */
    private static void draws() {
        long[] seeds = {0, 1, 2, 65535, 65536, 12345, 1073741823, 1073741824, 2147483646, 2147483647};
        for (long seed : seeds) {
            long now = seed;
            StringBuilder story = new StringBuilder("'e1 0;'|seed " + seed);
            for (int i = 0; i < 5; i++) {
                now = java.math.BigInteger.valueOf(now).multiply(java.math.BigInteger.valueOf(1103515245L))
                    .add(java.math.BigInteger.valueOf(12345)).mod(java.math.BigInteger.TWO.pow(31)).longValueExact();
                story.append("|drift 1 = 0|seed " + now + " = " + now);
            }
            Edge.run("the seed wraps", story.toString());
        }
    }

    /** Promise 13: The n latest (1 .. 30). OUTSIDE. */
    private static void undoBounds() {
        Edge.each("undo", PAIR + "|minute 40", "undo 0 = OUTSIDE", "undo -1 = OUTSIDE", "undo 31 = OUTSIDE", "undo MIN = OUTSIDE",
            "undo MAX = OUTSIDE", "undo 1 = 39", "undo 29 = 11", "undo 30 = 10");
        Edge.each("OUTSIDE ahead of NOT", "", "undo 0 = OUTSIDE", "undo 31 = OUTSIDE", "undo 1 = NOT", "undo 30 = NOT");
    }

    /** Promise 13: NOT: not so many. */
    private static void undoNotSoMany() {
        Edge.each("none", PAIR, "undo 1 = NOT", "undo 2 = NOT", "undo 30 = NOT");
        Edge.each("one", PAIR + "|ring 0", "undo 1 = 0", "undo 2 = NOT", "undo 30 = NOT");
        Edge.each("29", PAIR + "|minute 29", "undo 29 = 0", "undo 30 = NOT");
        Edge.run("all, then none", PAIR + "|ring 0|minute 2|undo 3 = 0|undo 1 = NOT|told 12 = 0");
        Edge.run("fewer each time", PAIR + "|minute 5|undo 2 = 3|told 12 = 3|undo 4 = NOT|undo 3 = 0|undo 1 = NOT");
    }

    /** Section 3: 30 at most are kept. */
    private static void thirtyKept() {
        Edge.run("the 30th", PAIR + "|wrongNumber 0 1 = 1|minute 29 = 0|told 12 = 30|undo 30 = 0|maker 0 1 = 0|told 12 = 0");
        Edge.run("the 31st pushes out the first", PAIR + "|wrongNumber 0 1 = 1|minute 30 = 0|told 12 = 30|undo 30 = 0|maker 0 1 = 1|undo 1 = NOT");
        Edge.run("minutes one by one", PAIR + "|ring 0 = 2|minute 60 = 1|told 12 = 30|undo 30 = 30|told 8 = 1|undo 1 = NOT");
        Edge.run("round more than once", PAIR + "|minute 60 = 0|minute 7 = 0|undo 13 = 54|told 12 = 17|ring 0 = 56|minute 2 = 1|told 12 = 20"
            + "|undo 20 = 37|told 8 = 0|undo 1 = NOT|minute 30 = 0|undo 30 = 37");
        for (int ahead = 0; ahead <= 32; ahead++) {
            // the place of the row that is taken back is another one each time
            StringBuilder story = new StringBuilder(PAIR);
            story.append(ahead > 0 ? "|minute " + ahead : "").append("|ring 0|minute 1|wrongNumber 0 1 = NOT|minute 1 = 1|undo 3 = " + ahead);
            story.append("|told 8 = 0|told 7 = 0|told 12 = " + Math.min(ahead, 27));
            Edge.run("from any place", story.toString());
        }
    }

    /** Section 3: UNDONE: the latest minutes (one by one), RUNG (BY DRAWS, too), HUNG UP, WRONG NUMBERS; THE SEED stays. */
    private static void whatIsUndone() {
        Edge.alike("a ring", THREE, THREE + "|ring 0|undo 1");
        Edge.alike("a minute", THREE + "|ring 0|minute 3", THREE + "|ring 0|minute 4|undo 1");
        Edge.alike("the minute in which one is DONE", THREE + "|ring 0|minute 4", THREE + "|ring 0|minute 5|undo 1");
        Edge.alike("hanging up", THREE + "|ring 0|minute 3", THREE + "|ring 0|minute 3|hangUp 0|undo 1");
        Edge.alike("a wrong number", THREE + "|ring 0|minute 5", THREE + "|ring 0|minute 5|wrongNumber 0 2|undo 1");
        Edge.alike("all of these", THREE, THREE + "|ring 0|minute 3|hangUp 0|wrongNumber 0 2|ring 1|minute 1|undo 8");
        Edge.alike("n at once are n times one", THREE + "|ring 0|minute 3|undo 3", THREE + "|ring 0|minute 3|undo 1|undo 1|undo 1");
        Edge.alike("by draws", EIGHT + "|seed 77", EIGHT + "|drift 1|undo 2|seed 77");
        Edge.run("the seed stays", "'e1 0;m0;m0;x0 1 1 9;'|drift 1 = 1|undo 2 = 0|seed 5 = 12345|told 6 = 1|maker 0 1 = 0");
        Edge.run("a ring by draws is a step of its own", "'e1 0;m0;m0;x0 1 1 9;'|drift 1 = 1|undo 1 = 0|told 7 = 1|undo 1 = 0|told 7 = 0|undo 1 = NOT");
    }

    /** What is not named there is no step, nor is what is refused. */
    private static void whatIsNoStep() {
        Edge.run("no steps", THREE + "|minute 1|lies 0 0|write 0 0|seed 4|feed 101|told 12 = 1|tear|told 12 = 1|soonest NONE = 6|told 12 = 1"
            + "|ring 2 = UNKNOWN|hangUp 0 = NOT|minute 0 = OUTSIDE|wrongNumber 1 1 = UNKNOWN|drift 61 = OUTSIDE|undo 2 = NOT|told 12 = 1|undo 1 = 0");
        Edge.run("what lies, the book, the seed, the text are not undone", THREE + "|minute 1|lies 0 0|write 0 0|seed 4|feed 101|undo 1 = 0"
            + "|told 10 = 1|told 11 = 1|told 4 = 1|seed 0 = 4");
    }

    /** Section 3: since the text or IMAGE. */
    private static void sinceTextOrImage() {
        Edge.run("since the text", PAIR + "|minute 3|" + PAIR + " = 2|undo 1 = NOT|minute 1|undo 2 = NOT|undo 1 = 0");
        Edge.run("a text with a fault is none", PAIR + "|minute 3|'e0' = -12|undo 3 = 0");
        Edge.run("since the image", PAIR + "|minute 3|keep 0 = 1|undo 1 = NOT|minute 1|undo 2 = NOT|undo 1 = 3");
        Edge.run("since going back", PAIR + "|keep 0|minute 3|goBack 0 = 1|undo 1 = NOT|minute 1|undo 2 = NOT|undo 1 = 0");
        Edge.run("images that there are not", PAIR + "|minute 3|keep 2 = UNKNOWN|goBack 2 = UNKNOWN|goBack 0 = NOT|undo 3 = 0");
    }
}
