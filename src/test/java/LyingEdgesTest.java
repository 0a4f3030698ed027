/** Boundary cases of what lies in the window, of the book, and of promises 22 to 30, sentence by sentence. */
public final class LyingEdgesTest {
    /** Windows: none 1 2 0, {0} 0 2 1, {1} 1 0 2, both 0 1 2. */
    private static final String TWO = "'e1 0;m0;m0;m0;x0 1 1 9;x1 2 1 9;'";
    private static final String DEAF = "'e1 0;m0;m1;x0 1 1 9;x0 1 1 9;x0 1 1 9;x0 1 1 9;x0 1 1 9;x0 1 1 9;x0 1 1 9;x0 1 1 9;'";
    private static final String APART = "'e1 0;m0;m0;m0;m0;m0;m0;x0 1 1 9;x2 3 1 9;x4 5 1 9;'";
    private static final String NO_CROSSING = "'e1 0;m0;m0;m0;m0;m0;m0;'";

    public static void main(String[] args) {
        liesUnknown();
        liesFull();
        setsWithoutLies();
        ithSet();
        twoAtMost();
        noneFits();
        fewestFirst();
        fromTheBeginning();
        sure();
        lookNone();
        lookLeast();
        strangePairs();
        ithPair();
        strangeMustChange();
        earsUnknown();
        ears();
        writeUnknown();
        writeFull();
        judgeNow();
        judgeFirst();
        tear();
        Due.end();
    }

    /** Promise 22: UNKNOWN (a thread that there is not, too). */
    private static void liesUnknown() {
        Edge.each("lies", TWO + "|lies 0 1", "lies -1 0 = UNKNOWN", "lies 3 0 = UNKNOWN", "lies 6 0 = UNKNOWN", "lies MIN 0 = UNKNOWN",
            "lies MAX 0 = UNKNOWN", "lies 0 -1 = UNKNOWN", "lies 0 3 = UNKNOWN", "lies 0 6 = UNKNOWN", "lies 0 MIN = UNKNOWN", "lies 0 MAX = UNKNOWN",
            "lies 3 3 = UNKNOWN", "lies -1 -1 = UNKNOWN", "lies 0 0 = 2", "lies 2 2 = 2", "lies 2 0 = 2", "lies 0 2 = 2", "lies 0 1 = 2");
        Edge.each("lies of six", APART, "lies 5 5 = 1", "lies 5 6 = UNKNOWN", "lies 6 5 = UNKNOWN");
        Edge.each("lies without MAKERS", "'e1 0;'", "lies 0 0 = UNKNOWN");
    }

    /** Section 3: LIES (6 at most); promise 22: FULL (6), behind UNKNOWN. */
    private static void liesFull() {
        Edge.run("six", TWO + "|lies 0 1 = 1|lies 1 2 = 2|lies 2 0 = 3|lies 0 1 = 4|lies 1 2 = 5|lies 2 0 = 6|told 10 = 6|lies 0 1 = FULL|told 10 = 6"
            + "|wentWrong NONE = 1|wentWrong 0 = 0");
        Edge.each("the seventh", TWO + "|6*lies 0 1", "lies 0 1 = FULL", "lies 1 0 = FULL", "lies 2 2 = FULL", "lies 3 0 = UNKNOWN", "lies 0 3 = UNKNOWN",
            "lies -1 0 = UNKNOWN", "write 0 1 = 1");
        Edge.run("room again", TWO + "|6*lies 0 1 = 6|tear = 6|lies 0 1 = 1|5*lies 0 1 = 6|lies 0 1 = FULL|told 10 = 6");
        Edge.run("a new town has room again", TWO + "|6*lies 0 1 = 6|" + TWO + " = 3|lies 0 1 = 1");
        Edge.run("the sixth counts", TWO + "|5*lies 0 0 = 5|wentWrong NONE = 2|lies 1 2 = 6|wentWrong NONE = 1|wentWrong 0 = 1");
        Edge.run("one PIN with two threads", TWO + "|lies 0 0 = 1|lies 0 1 = 2|wentWrong NONE = 0|sure = 0|look = NONE|strange NONE = 0|ears 0 = 0");
    }

    /** Section 3: SETS by which all that LIES is so: all of them, if nothing does. */
    private static void setsWithoutLies() {
        Edge.run("no CROSSINGS: the empty SET", NO_CROSSING + "|wentWrong NONE = 1|wentWrong 0 = 0|wentWrong 1 = NONE|sure = 0|look = NONE");
        Edge.run("no EXCHANGE: the empty SET", "wentWrong NONE = 1|wentWrong 0 = 0|wentWrong 1 = NONE|sure = 0|look = NONE");
        Edge.run("one CROSSING", "'e1 0;m0;m0;x0 1 1 9;'|wentWrong NONE = 2|wentWrong 0 = 0|wentWrong 1 = 1|wentWrong 2 = NONE|sure = 0|look = 0");
        Edge.run("eight: 1, 8 and 28", DEAF + "|wentWrong NONE = 37|wentWrong 0 = 0|wentWrong 1 = 1|wentWrong 8 = 128|wentWrong 9 = 3|wentWrong 10 = 5"
            + "|wentWrong 11 = 6|wentWrong 30 = 129|wentWrong 35 = 160|wentWrong 36 = 192|wentWrong 37 = NONE|sure = 0|look = NONE");
    }

    /** Promise 23: i = NONE how many, else the i-th; NONE. */
    private static void ithSet() {
        Edge.each("i of four", TWO, "wentWrong NONE = 4", "wentWrong 0 = 0", "wentWrong 3 = 3", "wentWrong 4 = NONE", "wentWrong 5 = NONE", "wentWrong 36 = NONE",
            "wentWrong 37 = NONE", "wentWrong 38 = NONE", "wentWrong MAX = NONE", "wentWrong -2 = NONE", "wentWrong MIN = NONE");
        // what more SETS left behind is no part of fewer
        Edge.run("fewer than before", TWO + "|wentWrong 3 = 3|lies 0 0|wentWrong NONE = 2|wentWrong 0 = 1|wentWrong 1 = 3|wentWrong 2 = NONE|wentWrong 3 = NONE|wentWrong 4 = NONE");
    }

    /** Section 3: SETS of CROSSINGS, 2 at most. */
    private static void twoAtMost() {
        Edge.run("two", APART + "|lies 0 0|lies 2 2|wentWrong NONE = 1|wentWrong 0 = 3|sure = 3|lies 4 5|wentWrong NONE = 1|wentWrong 0 = 3");
        Edge.run("three are too many", APART + "|lies 0 0|lies 2 2|lies 4 4|wentWrong NONE = 0|wentWrong 0 = NONE|sure = 0|look = NONE");
        Edge.run("the last two of eight", "'e1 0;m0;m0;m0;m0;m0;m0;x0 1 1 9;x0 1 1 9;x0 1 1 9;x0 1 1 9;x0 1 1 9;x0 1 1 9;x2 3 1 9;x4 5 1 9;'"
            + "|lies 2 2|lies 4 4|wentWrong NONE = 1|wentWrong 0 = 192|sure = 192|wentWrong 1 = NONE");
    }

    /** Promise 23: NONE; promise 24: 0 without. */
    private static void noneFits() {
        Edge.run("none fits any more", TWO + "|lies 0 0|sure = 1|look = 1|lies 0 1|sure = 0|look = NONE|wentWrong NONE = 0|wentWrong 0 = NONE");
        Edge.run("none fits", TWO + "|lies 0 2|wentWrong NONE = 0|wentWrong 0 = NONE|wentWrong -2 = NONE|sure = 0|look = NONE");
    }

    /** Section 3: the i-th (fewest first, then rising). */
    private static void fewestFirst() {
        Edge.run("fewest first", "'e1 0;m0;m0;m0;x0 1 1 9;x0 1 1 9;x0 1 1 9;x0 1 1 9;'|lies 0 0|wentWrong NONE = 7|wentWrong 0 = 0|wentWrong 1 = 3|wentWrong 2 = 5"
            + "|wentWrong 3 = 6|wentWrong 4 = 9|wentWrong 5 = 10|wentWrong 6 = 12|wentWrong 7 = NONE|sure = 0");
        Edge.run("one each", "'e1 0;m0;m0;m0;x0 1 1 9;x0 1 1 9;x0 1 1 9;x0 1 1 9;'|lies 0 1|wentWrong NONE = 4|wentWrong 0 = 1|wentWrong 1 = 2|wentWrong 2 = 4|wentWrong 3 = 8");
        // 2 alone comes ahead of 0 with 1, though it is the greater number
        Edge.run("4 ahead of 3", "'e1 0;m0;m0;m0;x0 2 1 9;x0 2 1 9;x0 1 1 9;'|lies 1 1|wentWrong 0 = 4|wentWrong 1 = 5|wentWrong 2 = 6|wentWrong NONE = 3|sure = 4");
    }

    /** Section 3: THE WINDOW is what lies if all were done from the beginning: what is so now does not matter. */
    private static void fromTheBeginning() {
        String now = "|wrongNumber 0 2|ring 1|minute 1|wrongNumber 1 2";
        Edge.run("whatever is so now", TWO + now + "|lies 0 0|wentWrong NONE = 2|wentWrong 0 = 1|wentWrong 1 = 3|sure = 1|look = 1|strange NONE = 1|strange 0 = 2"
            + "|ears 0 = 2|ears 1 = 2|ears 2 = 4");
    }

    /** Section 3: SURE: those in all of them (0 without). */
    private static void sure() {
        Edge.run("one SET: all of it", TWO + "|lies 0 0|lies 1 1|wentWrong NONE = 1|sure = 3");
        Edge.run("two SETS with one in common", TWO + "|lies 0 0|sure = 1");
        Edge.run("two SETS with none in common", "'e1 0;m0;m0;x0 1 1 9;x0 1 1 9;'|lies 0 1|wentWrong NONE = 2|wentWrong 0 = 1|wentWrong 1 = 2|sure = 0");
        Edge.run("the first is not in the last", "'e1 0;m0;m0;m0;x0 2 1 9;x0 2 1 9;x0 1 1 9;'|sure = 0|lies 1 1|sure = 4");
        Edge.run("the empty SET among them", TWO + "|lies 0 1|wentWrong NONE = 2|wentWrong 0 = 0|sure = 0");
        Edge.run("the last CROSSING", "'e1 0;m0;m0;m0;m0;x0 1 1 9;x0 1 1 9;x0 1 1 9;x0 1 1 9;x0 1 1 9;x0 1 1 9;x0 1 1 9;x2 3 1 9;'|lies 2 2|wentWrong NONE = 8|sure = 128");
        Edge.run("none in common of three", "'e1 0;m0;m0;m0;x0 1 1 9;x0 1 1 9;x0 1 1 9;x1 2 1 9;'|lies 0 0|lies 2 2|wentWrong NONE = 3|wentWrong 0 = 9"
            + "|wentWrong 1 = 10|wentWrong 2 = 12|sure = 8");
    }

    /** Section 3: LOOK: NONE: none parts them. */
    private static void lookNone() {
        Edge.run("no SET", TWO + "|lies 0 2|look = NONE");
        Edge.run("one SET", TWO + "|lies 0 0|lies 1 1|look = NONE");
        Edge.run("like windows", DEAF + "|look = NONE");
        Edge.run("like windows of two SETS", "'e1 0;m0;m0;x0 1 1 9;x0 1 1 9;'|lies 0 1|look = NONE");
        Edge.run("no CROSSINGS", NO_CROSSING + "|look = NONE");
        Edge.run("no MAKERS", "'e1 0;'|look = NONE");
    }

    /** Section 3: the greatest part that lies alike is least; of like ones the least. */
    private static void lookLeast() {
        // pin 0: 1 0 1 0; pin 1: 2 2 0 1; pin 2: 0 1 2 2: two alike at most on each
        Edge.run("of like ones the least", TWO + "|look = 0");
        Edge.run("0 does not part them", TWO + "|lies 0 0|look = 1");
        Edge.run("only the last two", "'e1 0;m0;m0;m0;m0;m0;m0;x4 5 1 9;'|look = 4");
        // of 7 SETS: pin 0 has 4 alike, pins 1 and 2 have 2, pin 3 has 4
        Edge.run("1 is better than 0", "'e1 0;m0;m0;m0;m0;x0 1 1 9;x2 3 1 9;x1 2 1 9;'|look = 1");
        // a wrong number now does not matter
        Edge.run("not from now", "'e1 0;m0;m0;m0;m0;x0 1 1 9;x2 3 1 9;x1 2 1 9;'|wrongNumber 0 3|look = 1");
    }

    /** Section 3: STRANGE: pairs of MAKERS: how many. */
    private static void strangePairs() {
        Edge.each("no MAKER", "'e1 0;'", "strange NONE = 0", "strange 0 = NONE");
        Edge.each("one MAKER", "'e1 0;m0;'", "strange NONE = 0", "strange 0 = NONE");
        Edge.each("two", "'e1 0;m0;m0;'", "strange NONE = 1", "strange 0 = 1", "strange 1 = NONE");
        Edge.each("six", NO_CROSSING, "strange NONE = 15", "strange 0 = 1", "strange 4 = 5", "strange 5 = 12", "strange 14 = 45", "strange 15 = NONE");
    }

    /** Promise 26: i = NONE how many, else the i-th (10 times the lesser and the other; rising); NONE. */
    private static void ithPair() {
        Edge.each("i of three", TWO, "strange NONE = 3", "strange 0 = 1", "strange 1 = 2", "strange 2 = 12", "strange 3 = NONE", "strange 4 = NONE",
            "strange MAX = NONE", "strange -2 = NONE", "strange MIN = NONE");
    }

    /** Section 3: threads, changed behind all, make all that LIES so. */
    private static void strangeMustChange() {
        // 1 2 0 lies there, if nothing went wrong
        Edge.run("what lies is so already: none of it may change", TWO + "|lies 0 1|strange NONE = 1|strange 0 = 12|lies 1 2|strange NONE = 0|strange 0 = NONE");
        Edge.run("all three PINS", TWO + "|lies 0 0|lies 1 2|lies 2 1|strange NONE = 1|strange 0 = 2|strange 1 = NONE");
        Edge.run("two changes would be needed", TWO + "|lies 0 0|lies 1 1|strange NONE = 0");
        Edge.run("ears do not matter to it", "'e1 0;m1;m1;x0 1 1 9;'|lies 0 1|strange NONE = 1|strange 0 = 1");
        Edge.run("the last pair of six", NO_CROSSING + "|lies 5 4|strange NONE = 1|strange 0 = 45");
    }

    /** Promise 27: UNKNOWN. */
    private static void earsUnknown() {
        Edge.each("ears", TWO, "ears -1 = UNKNOWN", "ears 3 = UNKNOWN", "ears 6 = UNKNOWN", "ears MIN = UNKNOWN", "ears MAX = UNKNOWN", "ears 0 = 7", "ears 2 = 7");
        Edge.each("ears of six", APART, "ears 5 = 7", "ears 6 = UNKNOWN");
    }

    /** Section 3: a SET of 0 to 2; others as told; nothing went wrong. */
    private static void ears() {
        String one = "'e1 0;m0;m0;m0;x0 1 1 9;'";
        // good 1 0 2, deaf 0 1 2, mirrored 2 1 0
        Edge.each("nothing lies: all", one, "ears 0 = 7", "ears 1 = 7", "ears 2 = 7");
        Edge.each("0 alone", one + "|lies 0 1", "ears 0 = 1", "ears 1 = 1", "ears 2 = 7");
        Edge.each("1 alone", one + "|lies 0 0", "ears 0 = 2", "ears 1 = 2", "ears 2 = 0");
        Edge.each("2 alone", one + "|lies 0 2", "ears 0 = 4", "ears 1 = 4", "ears 2 = 0");
        Edge.each("0 and 1", one + "|lies 2 2", "ears 0 = 3", "ears 1 = 3", "ears 2 = 7");
        Edge.each("1 and 2", one + "|lies 1 1", "ears 0 = 6", "ears 1 = 6", "ears 2 = 0");
        Edge.each("none", one + "|lies 1 2", "ears 0 = 0", "ears 1 = 0", "ears 2 = 0");
        Edge.each("the other one stays deaf", "'e1 0;m0;m1;m0;x0 1 1 9;'|lies 0 0", "ears 0 = 7", "ears 1 = 2", "ears 2 = 7");
        Edge.each("the other one stays mirrored", "'e1 0;m0;m2;m0;x0 1 1 9;'|lies 0 2", "ears 0 = 5", "ears 1 = 4", "ears 2 = 7");
        Edge.each("of two, the MAKER behind B is A", "'e1 0;m0;m0;x0 1 1 9;'|lies 0 0", "ears 0 = 6", "ears 1 = 6");
        Edge.each("without CROSSINGS", NO_CROSSING + "|lies 0 0", "ears 0 = 7", "ears 5 = 7");
        Edge.run("tried only", one + "|ears 0 = 7|maker 0 0 = 0|ring 0|minute 1|maker 0 1 = 1");
    }

    /** Promise 28: UNKNOWN (a thread that there is not, too). */
    private static void writeUnknown() {
        Edge.each("write", TWO + "|write 0 1", "write -1 0 = UNKNOWN", "write 3 0 = UNKNOWN", "write 6 0 = UNKNOWN", "write MIN 0 = UNKNOWN",
            "write MAX 0 = UNKNOWN", "write 0 -1 = UNKNOWN", "write 0 3 = UNKNOWN", "write 0 6 = UNKNOWN", "write 0 MIN = UNKNOWN", "write 0 MAX = UNKNOWN",
            "write 3 3 = UNKNOWN", "write 0 0 = 2", "write 2 2 = 2", "write 0 1 = 2");
        Edge.each("write without MAKERS", "'e1 0;'", "write 0 0 = UNKNOWN");
    }

    /** Section 3: THE BOOK (20 at most); promise 28: FULL (20), behind UNKNOWN. */
    private static void writeFull() {
        Edge.run("twenty", TWO + "|19*write 0 0 = 19|write 1 1 = 20|told 11 = 20|write 2 2 = FULL|told 11 = 20|judge = NONE");
        Edge.each("the 21st", TWO + "|20*write 0 0", "write 0 0 = FULL", "write 1 0 = FULL", "write 3 0 = UNKNOWN", "write 0 3 = UNKNOWN", "write -1 0 = UNKNOWN", "lies 0 0 = 1");
        Edge.run("room again", TWO + "|20*write 0 0 = 20|tear = 20|write 0 0 = 1|19*write 0 0 = 20|write 0 0 = FULL|told 11 = 20");
        Edge.run("a new town has room again", TWO + "|20*write 0 0 = 20|" + TWO + " = 3|write 0 0 = 1");
    }

    /** Section 3: tells threads on PINS now. */
    private static void judgeNow() {
        Edge.run("now", TWO + "|write 0 1|judge = 0|ring 0|judge = 0|minute 1|judge = NONE|undo 1|judge = 0|minute 1|judge = NONE|wrongNumber 0 2|judge = 0");
        Edge.run("images, too", TWO + "|keep 0|wrongNumber 0 1|write 0 1|judge = NONE|goBack 0|judge = 0");
        Edge.run("not what lies", TWO + "|lies 0 2|judge = NONE|write 0 0|judge = NONE");
    }

    /** Section 3: WRONG: the first that is otherwise; NONE. */
    private static void judgeFirst() {
        Edge.run("an empty book", TWO + "|judge = NONE");
        Edge.run("the first", TWO + "|write 0 1|write 0 0|write 1 0|judge = 0");
        Edge.run("the first that is otherwise", TWO + "|write 0 0|write 0 0|write 1 0|write 1 2|judge = 2");
        Edge.run("the last of twenty", TWO + "|19*write 0 0|judge = NONE|write 0 1 = 20|judge = 19");
        Edge.run("none of twenty", TWO + "|20*write 2 2 = 20|judge = NONE");
        Edge.run("one PIN with two threads", TWO + "|write 0 0|write 0 1|judge = 1|wrongNumber 0 1|judge = 0");
    }

    /** Promise 30: Nothing LIES, no BOOK: how much both had. */
    private static void tear() {
        Edge.run("nothing", "tear = 0");
        Edge.run("both full", TWO + "|6*lies 0 1|20*write 0 1|judge = 0|tear = 26|told 10 = 0|told 11 = 0|judge = NONE|tear = 0");
        Edge.alike("as if never told", TWO + "|ring 0|minute 1|keep 0|minute 1", TWO + "|ring 0|minute 1|keep 0|lies 0 2|minute 1|write 0 2|tear");
        Edge.run("one of each", TWO + "|lies 0 2|tear = 1|wentWrong NONE = 4|write 0 2|tear = 1|judge = NONE");
    }
}
