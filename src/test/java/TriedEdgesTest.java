import java.math.BigInteger;

/** Boundary cases of what is tried (section 3) and of promises 14 to 21, sentence by sentence. */
public final class TriedEdgesTest {
    private static final String LIKE = "x0 1 1 9;x0 1 1 9;x0 1 1 9;x0 1 1 9;x0 1 1 9;x0 1 1 9;";
    private static final String SIX = "'e1 0;m0;m0;" + LIKE + "'";
    private static final String SEVEN = "'e1 0;m0;m0;" + LIKE + "x0 1 1 9;'";
    private static final String EIGHT = "'e1 0;m0;m0;" + LIKE + "x0 1 1 9;x0 1 1 9;'";
    private static final String APART = " 0;m0;m0;m0;m0;m0;m0;x0 1 4 9;x2 3 4 9;x4 5 4 9;'";
    /** Maker k knows it 20 minutes behind maker k - 1. */
    private static final String ROW = "'e3 0;m0;m0;m0;m0;m0;m0;x0 1 20 9;x1 2 20 0;x2 3 20 1;x3 4 20 2;x4 5 20 3;'";

    public static void main(String[] args) {
        noExchange();
        sixOpen();
        nothingOpen();
        ithOfOrder();
        firstOfLikeOrders();
        fromNow();
        linesBounds();
        fewestLines();
        linesWhileRung();
        chainBounds();
        chains();
        windowUnknown();
        windows();
        behindWhatWentWrong();
        gone();
        goneRungOrDone();
        shareUnknown();
        shareOfNothing();
        shareCut();
        engagedBounds();
        engagedCut();
        gossipRefused();
        gossipMinutes();
        Due.end();
    }

    /** Promises 14, 15, 21: NOT: no EXCHANGE (of gossip: no MAKERS then, so UNKNOWN). */
    private static void noExchange() {
        String[] last = {"soonest NONE = NOT", "soonest 0 = NOT", "soonest -2 = NOT", "lines 0 = NOT", "lines 200 = NOT",
            "lines 201 = OUTSIDE", "lines -1 = OUTSIDE", "gossip 0 0 = UNKNOWN", "gossip 0 100 = UNKNOWN"};
        Edge.each("no EXCHANGE", "", last);
        Edge.each("no EXCHANGE any more", SIX + "|town", last);
    }

    /** Section 3: all OPEN ones (6 at most); NOT: more than 6 are OPEN. */
    private static void sixOpen() {
        Edge.each("six", SIX, "soonest NONE = 6", "soonest 0 = 0", "soonest 5 = 5", "soonest 6 = NONE", "lines 6 = 1", "lines 5 = NONE",
            "gossip 0 1 = 3", "gossip 1 0 = 2");
        String[] not = {"soonest NONE = NOT", "soonest 0 = NOT", "soonest 6 = NOT", "soonest 7 = NOT", "soonest -2 = NOT",
            "lines 0 = NOT", "lines 200 = NOT", "lines 201 = OUTSIDE", "lines -1 = OUTSIDE", "gossip 0 0 = NOT", "gossip 1 99 = NOT",
            "gossip 0 100 = OUTSIDE", "gossip 0 -1 = OUTSIDE", "gossip 2 0 = UNKNOWN", "gossip 2 100 = UNKNOWN", "gossip -1 -1 = UNKNOWN"};
        Edge.each("seven", SEVEN, not);
        Edge.each("eight", EIGHT, not);
        Edge.each("seven of eight", EIGHT + "|ring 3", not);
        Edge.each("seven of eight, one is DONE", EIGHT + "|ring 3|minute 1", not);
        Edge.each("six of seven, one is RUNG", SEVEN + "|ring 3", "soonest NONE = 7", "soonest 0 = 0", "soonest 3 = 4", "soonest 5 = 6",
            "soonest 6 = NONE", "lines 7 = 1", "lines 6 = NONE", "gossip 0 1 = 3");
        Edge.each("six of seven, one is DONE", SEVEN + "|ring 6|minute 1", "soonest NONE = 6", "soonest 5 = 5", "soonest 6 = NONE", "lines 6 = 1");
        Edge.each("six of eight", EIGHT + "|ring 0|minute 1|ring 7", "soonest NONE = 7", "soonest 0 = 1", "soonest 5 = 6", "soonest 6 = NONE");
        Edge.run("seven again, hung up", SEVEN + "|ring 3 = 1|soonest NONE = 7|hangUp 3 = 0|soonest NONE = NOT|undo 1 = 0|soonest NONE = 7"
            + "|undo 1 = 0|soonest NONE = NOT");
    }

    /** Section 3: in how many minutes all are DONE: none is OPEN, none is told. */
    private static void nothingOpen() {
        Edge.each("none told", "'e1 0;m0;m0;'", "soonest NONE = 0", "soonest 0 = NONE", "lines 0 = 1", "lines 200 = 1", "gossip 0 99 = 1");
        Edge.each("an EXCHANGE alone", "'e3 0;'", "soonest NONE = 0", "soonest 0 = NONE", "lines 0 = 1", "gossip 0 0 = UNKNOWN");
        Edge.each("all are RUNG", "'e1 0;m0;m0;x0 1 5 9;'|ring 0|minute 2", "soonest NONE = 3", "soonest 0 = NONE", "lines 3 = 1", "lines 2 = NONE",
            "gossip 0 3 = 3", "gossip 0 2 = 1");
        Edge.each("all are DONE", "'e1 0;m0;m0;x0 1 5 9;'|ring 0|minute 5", "soonest NONE = 0", "soonest 0 = NONE", "lines 0 = 1", "gossip 0 99 = 1");
    }

    /** Promise 14: i = NONE minutes, else the i-th; NONE: not so many. */
    private static void ithOfOrder() {
        Edge.each("i of three", "'e1" + APART, "soonest NONE = 12", "soonest 0 = 0", "soonest 2 = 2", "soonest 3 = NONE", "soonest 4 = NONE",
            "soonest 6 = NONE", "soonest 7 = NONE", "soonest 31 = NONE", "soonest MAX = NONE", "soonest -2 = NONE", "soonest MIN = NONE");
        // what a longer order left behind is no part of a shorter one
        Edge.run("fewer than before", "'e1" + APART + "|soonest 2 = 2|ring 0 = 4|minute 4 = 1|soonest 0 = 1|soonest 1 = 2|soonest 2 = NONE"
            + "|soonest 4 = NONE|soonest 5 = NONE");
    }

    /** Section 3: the order by which that is fewest, of like ones the first (the lesser CROSSING first). */
    private static void firstOfLikeOrders() {
        Edge.run("all alike", SIX + "|soonest 0 = 0|soonest 1 = 1|soonest 2 = 2|soonest 3 = 3|soonest 4 = 4|soonest 5 = 5");
        Edge.run("the long one must not wait", "'e2 0;m0;m0;m0;m0;m0;m0;x0 1 1 9;x2 3 1 9;x4 5 2 9;'|soonest NONE = 2|soonest 0 = 0"
            + "|soonest 1 = 2|soonest 2 = 1");
        // nine minutes wait for 4, which shares maker 0 with all others
        Edge.run("4 must be first", "'e2 0;m0;m0;m0;m0;m0;x0 1 2 9;x0 1 2 9;x0 1 2 9;x0 1 2 9;x0 2 1 9;x3 4 9 4;'|soonest NONE = 10"
            + "|soonest 0 = 4|soonest 1 = 0|soonest 2 = 1|soonest 3 = 2|soonest 4 = 3|soonest 5 = 5");
        Edge.run("far from the first order", "'e2 0;m0;m0;m0;m0;m0;x3 4 5 9;x0 2 7 9;x4 1 4 9;x2 1 5 9;x2 4 5 9;x0 3 3 4;'|soonest NONE = 17"
            + "|soonest 0 = 4|soonest 1 = 1|soonest 2 = 2|soonest 3 = 0|soonest 4 = 3|soonest 5 = 5");
        // 0 can only be RUNG behind nothing; 1 stands first in no order that is better, though it cannot be RUNG first
        Edge.run("one that cannot be RUNG yet may stand ahead", "'e1 0;m0;m0;x0 1 3 9;x0 1 2 0;'|soonest NONE = 5|soonest 0 = 0|soonest 1 = 1");
        Edge.run("the longest plan", "'e1 0;m0;m0;x0 1 20 9;x0 1 20 0;x0 1 20 1;x0 1 20 2;x0 1 20 3;x0 1 20 4;x0 1 20 5;'|ring 0|soonest NONE = 140"
            + "|lines 139 = NONE|lines 140 = 1|minute 19|soonest NONE = 121|minute 1|soonest NONE = 120");
    }

    /** Section 3: TRIED from now; those that are RUNG go on. */
    private static void fromNow() {
        String town = "'e2 0;m0;m0;m0;m0;x0 1 5 9;x1 2 1 9;x2 3 9 1;'";
        Edge.run("from minute 0", town + "|soonest NONE = 10|soonest 0 = 1|soonest 1 = 0|soonest 2 = 2");
        Edge.run("from a late minute, the same", town + "|minute 60|soonest NONE = 10|soonest 0 = 1|soonest 1 = 0|soonest 2 = 2|lines 10 = 2|lines 9 = NONE"
            + "|gossip 1 1 = 6|gossip 1 0 = 2");
        Edge.run("one is RUNG", town + "|minute 60|ring 0|minute 3|soonest NONE = 12|soonest 0 = 1|soonest 1 = 2|soonest 2 = NONE|lines 12 = 1"
            + "|lines 11 = NONE|gossip 0 1 = 1|gossip 0 2 = 3|gossip 0 3 = 7|gossip 0 11 = 7|gossip 0 12 = 15");
        Edge.run("its last minute", town + "|ring 0|minute 4|soonest NONE = 11|minute 1|soonest NONE = 10");
    }

    /** Promise 15: n minutes (0 .. 200): OUTSIDE. */
    private static void linesBounds() {
        Edge.each("lines", "'e1" + APART, "lines -1 = OUTSIDE", "lines 201 = OUTSIDE", "lines MIN = OUTSIDE", "lines MAX = OUTSIDE",
            "lines 0 = NONE", "lines 200 = 1");
    }

    /** Section 3: the fewest (1 to 3) by which SOONEST is n minutes at most; NONE. */
    private static void fewestLines() {
        for (int told = 1; told <= 3; told++) {
            Edge.each("whatever lines are told", "'e" + told + APART, "lines 3 = NONE", "lines 4 = 3", "lines 7 = 3", "lines 8 = 2", "lines 11 = 2",
                "lines 12 = 1", "soonest NONE = " + (told == 1 ? 12 : told == 2 ? 8 : 4));
        }
    }

    /** Section 3: those that are RUNG go on, though more than the lines that are tried. */
    private static void linesWhileRung() {
        Edge.each("two are RUNG", "'e3" + APART + "|ring 0|ring 1", "lines 3 = NONE", "lines 4 = 3", "lines 7 = 3", "lines 8 = 1");
        Edge.each("three are RUNG", "'e3" + APART + "|ring 0|ring 1|ring 2", "lines 3 = NONE", "lines 4 = 1", "soonest NONE = 4");
        // 0 is over a minute ahead of 1: two lines are enough from then on
        Edge.each("two are RUNG, one a minute later", "'e3" + APART + "|ring 0|minute 1|ring 1", "soonest NONE = 4", "lines 4 = 3", "lines 6 = 3",
            "lines 7 = 2", "lines 8 = 1");
    }

    /** Promise 16: what = 0 minutes, 1 the last one; OUTSIDE. */
    private static void chainBounds() {
        String[] outside = {"chain -1 = OUTSIDE", "chain 2 = OUTSIDE", "chain MIN = OUTSIDE", "chain MAX = OUTSIDE"};
        Edge.each("chain", SIX, outside);
        Edge.each("chain without CROSSINGS", "'e1 0;m0;'", outside);
        Edge.each("chain without an EXCHANGE", "", outside);
    }

    /** Section 3: CHAIN: all that are told; of like ones the least; NONE: none. */
    private static void chains() {
        Edge.each("none", "'e1 0;m0;m0;'", "chain 0 = NONE", "chain 1 = NONE");
        Edge.each("none any more", SIX + "|town", "chain 0 = NONE", "chain 1 = NONE");
        Edge.each("one", "'e1 0;m0;m0;x0 1 1 9;'", "chain 0 = 1", "chain 1 = 0");
        Edge.each("like ones, alone", SIX, "chain 0 = 1", "chain 1 = 0");
        Edge.each("like ones, a row and one alone", "'e1 0;m0;m0;x0 1 3 9;x0 1 5 9;x0 1 2 0;'", "chain 0 = 5", "chain 1 = 1");
        Edge.each("the later one is longer by one", "'e1 0;m0;m0;x0 1 3 9;x0 1 5 9;x0 1 3 0;'", "chain 0 = 6", "chain 1 = 2");
        Edge.each("the first one is longer by one", "'e1 0;m0;m0;x0 1 4 9;x0 1 3 9;x0 1 1 9;x0 1 2 2;'", "chain 0 = 4", "chain 1 = 0");
        Edge.each("two behind one", "'e1 0;m0;m0;x0 1 3 9;x0 1 2 0;x0 1 2 0;'", "chain 0 = 5", "chain 1 = 1");
        Edge.each("eight of 20", "'e1 0;m0;m0;x0 1 20 9;x0 1 20 0;x0 1 20 1;x0 1 20 2;x0 1 20 3;x0 1 20 4;x0 1 20 5;x0 1 20 6;'",
            "chain 0 = 160", "chain 1 = 7");
        Edge.each("DONE ones are told, too", "'e1 0;m0;m0;x0 1 3 9;x0 1 2 0;'|ring 0|minute 3|ring 1|minute 2", "chain 0 = 5", "chain 1 = 1");
    }

    /** Promise 17: UNKNOWN (a MAKER that there is not; bits of CROSSINGS that there are not). */
    private static void windowUnknown() {
        String town = "'e1 0;m0;m0;m0;x0 1 1 9;x1 2 1 9;'";
        Edge.each("window", town, "window -1 0 = UNKNOWN", "window 3 0 = UNKNOWN", "window 6 0 = UNKNOWN", "window MIN 0 = UNKNOWN",
            "window MAX 0 = UNKNOWN", "window 0 4 = UNKNOWN", "window 0 5 = UNKNOWN", "window 0 256 = UNKNOWN", "window 0 -1 = UNKNOWN",
            "window 0 MIN = UNKNOWN", "window 0 MAX = UNKNOWN", "window 3 4 = UNKNOWN", "window 0 0 = 1", "window 2 3 = 2");
        Edge.each("of eight", EIGHT, "window 0 255 = 0", "window 1 255 = 1", "window 0 127 = 1", "window 0 254 = 1", "window 0 256 = UNKNOWN",
            "window 0 511 = UNKNOWN", "window 2 0 = UNKNOWN");
        Edge.each("of none", "'e1 0;m0;'", "window 0 0 = 0", "window 0 1 = UNKNOWN", "window 1 0 = UNKNOWN");
    }

    /** Section 3: they changed nothing; all EARS as told; from the beginning, rising. */
    private static void windows() {
        String town = "'e1 0;m0;m0;m0;x0 1 1 9;x1 2 1 9;'";
        Edge.run("rising", town + "|window 0 0 = 1|window 1 0 = 2|window 2 0 = 0|window 0 1 = 0|window 1 1 = 2|window 2 1 = 1"
            + "|window 0 2 = 1|window 1 2 = 0|window 2 2 = 2|window 0 3 = 0|window 1 3 = 1|window 2 3 = 2");
        Edge.run("from the beginning, not from now", town + "|wrongNumber 0 2|ring 1|minute 1|window 0 0 = 1|window 1 0 = 2|window 2 0 = 0");
        // 1 with 2 is 1 with 3, 3 with 2 (mirrored) would be 3 with 3: nothing
        Edge.run("mirrored, round, deaf", "'e1 0;m0;m0;m2;m0;m1;x1 2 1 9;x3 2 1 9;x4 0 1 9;'|window 0 0 = 0|window 1 0 = 3|window 2 0 = 2"
            + "|window 3 0 = 1|window 4 0 = 4|window 1 1 = 1|window 3 1 = 3");
    }

    /** Section 3: went wrong: they changed nothing; all were done, so those behind them, too. */
    private static void behindWhatWentWrong() {
        // 0 1 2 3: with 0 wrong it is 0 2 1 3 behind crossing 1, 0 2 3 1 behind crossing 2
        String town = "'e1 0;m0;m0;m0;m0;x0 1 1 9;x1 2 1 0;x2 3 1 1;'";
        Edge.run("the first of a row", town + "|window 0 1 = 0|window 1 1 = 2|window 2 1 = 3|window 3 1 = 1");
        Edge.run("the middle one", town + "|window 0 2 = 1|window 1 2 = 0|window 2 2 = 3|window 3 2 = 2");
        Edge.run("the last one", town + "|window 0 4 = 1|window 1 4 = 2|window 2 4 = 0|window 3 4 = 3");
        Edge.run("told apart by what is behind", town + "|lies 0 0|lies 3 1|wentWrong NONE = 1|wentWrong 0 = 1|sure = 1");
    }

    /** Promise 18: UNKNOWN; a SET of hers, and all behind these. */
    private static void gone() {
        String town = "'e1 0;m0;m0;m0;m0;m0;x0 1 1 9;x2 3 1 0;x2 3 1 1;x2 3 1 9;x1 2 1 3;'";
        Edge.each("gone", town, "gone -1 = UNKNOWN", "gone 5 = UNKNOWN", "gone 6 = UNKNOWN", "gone MIN = UNKNOWN", "gone MAX = UNKNOWN",
            "gone 0 = 7", "gone 1 = 23", "gone 2 = 30", "gone 3 = 30", "gone 4 = 0");
        Edge.each("all eight, none", "'e1 0;m0;m0;m0;x0 1 1 9;x1 2 1 0;x1 2 1 1;x1 2 1 2;x1 2 1 3;x1 2 1 4;x1 2 1 5;x1 2 1 6;'",
            "gone 0 = 255", "gone 1 = 255", "gone 2 = 254");
        Edge.each("without CROSSINGS", "'e1 0;m0;'", "gone 0 = 0", "gone 1 = UNKNOWN");
        Edge.each("P 9 is behind none", "'e1 0;m0;m0;m0;x0 1 1 9;x1 2 1 9;'", "gone 0 = 1");
    }

    /** Section 3: hers, and all behind these: however they are (the document names no other ones). */
    private static void goneRungOrDone() {
        String town = "'e2 0;m0;m0;m0;m0;x0 1 2 9;x2 3 1 0;x0 2 1 9;'";
        Edge.each("OPEN", town, "gone 0 = 7", "gone 1 = 3", "gone 2 = 6", "gone 3 = 2");
        Edge.each("RUNG", town + "|ring 0|minute 1", "gone 0 = 7", "gone 1 = 3", "gone 2 = 6", "gone 3 = 2");
        Edge.each("one is DONE, one is RUNG", town + "|ring 0|minute 2|ring 1", "gone 0 = 7", "gone 1 = 3", "gone 2 = 6", "gone 3 = 2");
        Edge.each("all are DONE", town + "|ring 0|minute 2|ring 1|minute 1|ring 2|minute 1", "gone 0 = 7", "gone 1 = 3", "gone 2 = 6", "gone 3 = 2");
    }

    /** Promise 19: UNKNOWN. */
    private static void shareUnknown() {
        Edge.each("share", "'e1 9;m0;m0;m0;x0 1 1 9;'|ring 0|minute 1", "share -1 = UNKNOWN", "share 3 = UNKNOWN", "share 6 = UNKNOWN",
            "share MIN = UNKNOWN", "share MAX = UNKNOWN", "share 0 = 500", "share 1 = 500", "share 2 = 0");
    }

    /** Section 3: 0, if nothing was paid. */
    private static void shareOfNothing() {
        Edge.run("no call", "'e1 9;m0;m0;x0 1 2 9;'|share 0 = 0|ring 0 = 2|share 0 = 0|minute 1 = 0|share 0 = 0|minute 1 = 1|share 0 = 500");
        Edge.run("hung up at once", "'e1 9;m0;m0;x0 1 2 9;'|ring 0 = 2|hangUp 0 = 0|share 0 = 0");
        Edge.run("C is 0", "'e1 0;m0;m0;x0 1 2 9;'|ring 0 = 2|minute 2 = 1|share 0 = 0|share 1 = 0");
        Edge.run("nothing any more", "'e1 9;m0;m0;x0 1 2 9;'|ring 0 = 2|minute 2 = 1|undo 1 = 1|share 0 = 0");
    }

    /** Section 3: thousandths (cut). */
    private static void shareCut() {
        Edge.run("thirds and sixths", "'e1 99;m0;m0;m0;x0 1 2 9;x1 2 1 9;'|ring 0|minute 2|ring 1|minute 1|share 0 = 333|share 1 = 500|share 2 = 166");
        Edge.run("sevenths", "'e1 4;m0;m0;m0;x0 1 2 9;x1 2 5 9;'|ring 0|minute 2|ring 1|minute 5|share 0 = 142|share 1 = 500|share 2 = 357");
        // 499 minutes of 0 with 1, and one of 1 with 2: 1000 in all; 500 minutes: 1002
        StringBuilder much = new StringBuilder("'e1 1;m0;m0;m0;x0 1 20 9;x1 2 1 9;'|ring 1|minute 1");
        for (int i = 0; i < 26; i++) {
            much.append("|ring 0|minute 19|hangUp 0");
        }
        Edge.run("a thousandth", much + "|ring 0|minute 5|hangUp 0|told 9 = 1000|share 2 = 1|share 0 = 499|share 1 = 500");
        Edge.run("less than a thousandth", much + "|ring 0|minute 6|hangUp 0|told 9 = 1002|share 2 = 0|share 0 = 499|share 1 = 500");
        // about as much as can be paid within 512 calls
        Edge.each("much", "'e1 99;m0;m0;x0 1 20 9;'" + "|ring 0|minute 19|hangUp 0".repeat(90), "maker 0 2 = 169290", "share 0 = 500", "told 9 = 338580");
    }

    /** Promise 20: n tries (0 .. 30), q of a hundred (0 .. 100): OUTSIDE. */
    private static void engagedBounds() {
        Edge.each("engaged", "", "engaged -1 50 = OUTSIDE", "engaged 31 50 = OUTSIDE", "engaged MIN 50 = OUTSIDE", "engaged MAX 50 = OUTSIDE",
            "engaged 1 -1 = OUTSIDE", "engaged 1 101 = OUTSIDE", "engaged 1 MIN = OUTSIDE", "engaged 1 MAX = OUTSIDE", "engaged -1 101 = OUTSIDE",
            "engaged 31 -1 = OUTSIDE", "engaged 0 0 = 0", "engaged 0 100 = 0", "engaged 30 0 = 1000000000", "engaged 30 100 = 0", "engaged 1 0 = 1000000000",
            "engaged 1 1 = 990000000", "engaged 1 99 = 10000000", "engaged 1 100 = 0", "engaged 30 99 = 260299638");
        Edge.each("with a town, too", SIX, "engaged 0 50 = 0", "engaged 31 50 = OUTSIDE", "engaged 30 101 = OUTSIDE");
    }

    /** Section 3: a BILLION less (a BILLION times q / 100 for each try, cut). */
    private static void engagedCut() {
        // 1000000000, 10000000, 100000, 1000, 10, 0
        Edge.each("down to 0", "", "engaged 4 1 = 999999990", "engaged 5 1 = 1000000000", "engaged 30 1 = 1000000000");
        // 330000000, 108900000, 35937000, 11859210, 3913539 (and .3, cut), 1291467 (and .87, cut)
        Edge.each("cut at each try", "", "engaged 4 33 = 988140790", "engaged 5 33 = 996086461", "engaged 6 33 = 998708533");
        LaceLines x = new LaceLines();
        int calls = 0;
        for (int q = 0; q <= 100; q++) {
            BigInteger left = BigInteger.valueOf(1000000000);
            for (int n = 0; n <= 30; n++) {
                if (calls == 512) {
                    x = new LaceLines();
                    calls = 0;
                }
                Due.is("engaged " + n + " " + q, x.engaged(n, q), 1000000000 - left.intValueExact());
                calls++;
                left = left.multiply(BigInteger.valueOf(q)).divide(BigInteger.valueOf(100));
            }
        }
    }

    /** Promise 21: UNKNOWN, OUTSIDE, NOT: more than 6 are OPEN (sixOpen has this one). */
    private static void gossipRefused() {
        Edge.each("gossip", ROW, "gossip -1 0 = UNKNOWN", "gossip 6 0 = UNKNOWN", "gossip MIN 0 = UNKNOWN", "gossip MAX 0 = UNKNOWN",
            "gossip 0 -1 = OUTSIDE", "gossip 0 100 = OUTSIDE", "gossip 0 MIN = OUTSIDE", "gossip 0 MAX = OUTSIDE", "gossip 6 100 = UNKNOWN",
            "gossip -1 -1 = UNKNOWN", "gossip 5 0 = 32", "gossip 5 99 = 32");
    }

    /** Section 3: GOSSIP behind n minutes (0 .. 99), told on in each call that is DONE from now. */
    private static void gossipMinutes() {
        Edge.each("each minute counts", ROW, "gossip 0 0 = 1", "gossip 0 19 = 1", "gossip 0 20 = 3", "gossip 0 39 = 3", "gossip 0 40 = 7",
            "gossip 0 79 = 15", "gossip 0 80 = 31", "gossip 0 99 = 31", "gossip 4 79 = 16", "gossip 4 80 = 24", "gossip 1 99 = 31", "gossip 2 39 = 4", "gossip 2 40 = 6", "gossip 2 60 = 14");
        Edge.each("one minute later", ROW + "|ring 0|minute 1", "gossip 0 18 = 1", "gossip 0 19 = 3", "gossip 0 99 = 63", "gossip 0 98 = 31");
        Edge.each("DONE now tells it no more", ROW + "|ring 0|minute 20", "gossip 0 99 = 1", "gossip 1 19 = 2", "gossip 1 20 = 6", "gossip 1 80 = 62");
        // calls that are over in one minute have no MAKER in common
        Edge.each("two over at once", "'e2 0;m0;m0;m0;m0;x0 1 3 9;x2 3 3 9;x1 2 3 0;'", "gossip 0 3 = 3", "gossip 3 3 = 12", "gossip 0 5 = 3",
            "gossip 0 6 = 7", "gossip 3 6 = 14", "gossip 0 99 = 7");
        // deaf and mirrored ears tell it on as good ones do
        Edge.each("ears do not matter", "'e1 0;m1;m2;m0;x0 1 1 9;x1 2 1 0;'", "gossip 0 1 = 3", "gossip 0 2 = 7", "gossip 2 2 = 6");
    }
}
