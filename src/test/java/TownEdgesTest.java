/** Boundary cases of the terms, of section 1 (the text, its faults) and of promises 1 to 7, sentence by sentence. */
public final class TownEdgesTest {
    private static final String LIVELY = "'e2 5;m0;m0;m1;m2;x0 1 3 9;x1 2 2 0;x2 3 4 9;'|seed 9|wrongNumber 0 3|keep 1"
        + "|ring 0|minute 1|ring 2|minute 1|lies 0 1|write 1 0";
    private static final String TWO = "e1 0;m0;m0;";
    private static final String SIX = "e1 0;m0;m0;m0;m0;m0;m0;";
    private static final String EIGHT = "x0 1 1 9;x0 1 1 9;x0 1 1 9;x0 1 1 9;x0 1 1 9;x0 1 1 9;x0 1 1 9;x0 1 1 9;";

    public static void main(String[] args) {
        newObject();
        letterOutOfBounds();
        fullText();
        longestText();
        emptyText();
        exchangeBounds();
        exchangeFirst();
        exchangeOnce();
        makerBounds();
        crossingMakers();
        crossingMinutes();
        crossingBehind();
        mostMakers();
        mostCrossings();
        figures();
        blanks();
        endOfText();
        everyLetterAtEveryPlace();
        leastOfSeveral();
        firstOfSeveral();
        faultOfLatest();
        faultLeavesAll();
        townForgets();
        told();
        maker();
        crossing();
        Due.end();
    }

    /** Promise 1: No EXCHANGE. Terms: what there is not is UNKNOWN. */
    private static void newObject() {
        for (int what = 0; what <= 12; what++) {
            Edge.run("a new object", "told " + what + " = 0");
        }
        Edge.each("a new object", "", "fault = NONE", "feed 101 = 1", "town = 0",
            "told -1 = OUTSIDE", "told 13 = OUTSIDE", "maker 0 0 = UNKNOWN", "maker 0 9 = UNKNOWN",
            "crossing 0 0 = UNKNOWN", "crossing 0 9 = UNKNOWN", "ring 0 = UNKNOWN", "hangUp 0 = UNKNOWN",
            "minute 1 = NOT", "minute 60 = NOT", "wrongNumber 0 1 = UNKNOWN", "drift 1 = NOT", "drift 60 = NOT",
            "undo 1 = NOT", "undo 30 = NOT", "soonest NONE = NOT", "soonest 0 = NOT", "lines 0 = NOT", "lines 200 = NOT",
            "chain 0 = NONE", "chain 1 = NONE", "window 0 0 = UNKNOWN", "gone 0 = UNKNOWN", "share 0 = UNKNOWN",
            "engaged 1 50 = 500000000", "gossip 0 0 = UNKNOWN", "lies 0 0 = UNKNOWN", "wentWrong NONE = 1",
            "wentWrong 0 = 0", "wentWrong 1 = NONE", "sure = 0", "look = NONE", "strange NONE = 0", "strange 0 = NONE",
            "ears 0 = UNKNOWN", "write 0 0 = UNKNOWN", "judge = NONE", "tear = 0", "seed 1 = 0", "keep 0 = 1",
            "keep 1 = 1", "goBack 0 = NOT", "goBack 1 = NOT");
    }

    /** Promise 2: A letter (0 .. 255); OUTSIDE. */
    private static void letterOutOfBounds() {
        Edge.each("a letter (0 .. 255)", "", "feed -1 = OUTSIDE", "feed 256 = OUTSIDE", "feed MIN = OUTSIDE",
            "feed MAX = OUTSIDE", "feed 0 = 1", "feed 255 = 1");
        Edge.each("a letter (0 .. 255) behind others", LIVELY + "|+'e1'", "feed -1 = OUTSIDE", "feed 256 = OUTSIDE",
            "feed 0 = 3", "feed 255 = 3");
        Edge.run("what is refused is not in the text", "+'e1 '|feed 256 = OUTSIDE|+'0;m'|feed -1 = OUTSIDE|'2;' = 1"
            + "|told 0 = 1|maker 0 0 = 2");
    }

    /** Promise 2: FULL (200); OUTSIDE comes ahead of it. */
    private static void fullText() {
        Edge.run("the 200th letter", "199*feed 32|feed 32 = 200|told 4 = 200");
        Edge.run("the 201st letter", "200*feed 32|feed 32 = FULL|feed 101 = FULL|feed 0 = FULL|feed 255 = FULL|told 4 = 200");
        Edge.run("OUTSIDE ahead of FULL", "200*feed 32|feed 256 = OUTSIDE|feed -1 = OUTSIDE");
        Edge.run("room again behind a town", "200*feed 32|town = 0|told 4 = 0|feed 101 = 1");
        Edge.run("room again behind a fault", "200*feed 33|town = -11|fault = 0|told 4 = 0|feed 101 = 1");
    }

    /** Section 1: 200 letters at most; the end at the text's length. */
    private static void longestText() {
        Edge.run("200 letters are read", "+'e1 0;'|192*feed 32|'m2;' = 1|fault = NONE|maker 0 0 = 2");
        Edge.run("a fault at the 200th letter", "+'e1 0;'|194*feed 32|feed 122 = 200|town = -11|fault = 199");
        Edge.run("a fault at the end of 200", "+'e1 0;m0'|193*feed 32|told 4 = 200|town = -11|fault = 200");
        Edge.run("what was refused is no part of it", "+'e1 0;'|192*feed 32|+'m0;'|feed 122 = FULL|town = 1|fault = NONE");
    }

    /** Section 1: An empty text: no EXCHANGE. */
    private static void emptyText() {
        Edge.alike("an empty text", "", "town");
        Edge.alike("blanks alone are as an empty text", "", "'  '");
        Edge.alike("an empty text behind a town", "seed 9", LIVELY + "|town");
        Edge.run("an empty text", LIVELY + "|town = 0|fault = NONE|told 0 = 0|told 2 = 0|told 3 = 0|minute 1 = NOT"
            + "|drift 1 = NOT|soonest NONE = NOT|lines 0 = NOT|ring 0 = UNKNOWN|maker 0 0 = UNKNOWN|goBack 1 = NOT");
    }

    private static void good(String text, int makers) {
        Edge.run("a text without fault", "'" + text + "' = " + makers + "|fault = NONE|told 4 = 0");
    }

    private static void bad(String text, int number, int at) {
        Edge.run("a text with a fault", LIVELY + "|'" + text + "' = " + (-10 - number) + "|fault = " + at + "|told 4 = 0");
    }

    /** Section 1: THE EXCHANGE has L LINES, 1 .. 3; C, 0 .. 99. */
    private static void exchangeBounds() {
        Edge.run("least L and C", "'e1 0;' = 0|told 0 = 1|told 1 = 0|minute 1 = 0");
        Edge.run("most L and C", "'e3 99;' = 0|told 0 = 3|told 1 = 99");
        bad("e0 0;", 2, 1);
        bad("e4 0;", 2, 1);
        bad("e999 0;", 2, 1);
        bad("e1 100;", 2, 3);
        bad("e1 999;", 2, 3);
        bad("e3  100;", 2, 4);
    }

    /** Section 1: first; 1: another word first than 'e'. */
    private static void exchangeFirst() {
        bad("m0;", 1, 0);
        bad("m0;e1 0;", 1, 0);
        bad("x0 1 1 9;", 1, 0);
        bad("  m0;e1 0;", 1, 2);
        bad(";e1 0;", 1, 0);
        bad("1", 1, 0);
        bad("E1 0;", 1, 0);
    }

    /** Section 1: once; 3: 'e' again (at it). */
    private static void exchangeOnce() {
        bad("e1 0;e1 0;", 3, 5);
        bad("e1 0;e", 3, 5);
        bad("e1 0; e4 100;", 3, 6);
        bad("e1 0;m0;e1 0;", 3, 8);
        bad(TWO + "x0 1 1 9;e", 3, 20);
        bad(SIX + EIGHT + "e", 3, 95);
    }

    /** Section 1: EAR E 0 good, 1 deaf, 2 mirrored. */
    private static void makerBounds() {
        Edge.run("least and most E", "'e1 0;m0;m1;m2;' = 3|maker 0 0 = 0|maker 1 0 = 1|maker 2 0 = 2");
        bad("e1 0;m3;", 2, 6);
        bad("e1 0;m9;", 2, 6);
        bad("e1 0;m0;m 3;", 2, 10);
        bad("e1 0;m-1;", 1, 6);
    }

    /** Section 1: of two unlike MAKERS told ahead; 2: a MAKER that was not told yet; 4: B like A (at the B). */
    private static void crossingMakers() {
        Edge.run("the least and the most", "'" + SIX + "x0 5 1 9;x5 0 1 9;' = 6|crossing 0 0 = 0|crossing 0 1 = 5"
            + "|crossing 1 0 = 5|crossing 1 1 = 0");
        bad("e1 0;x0 1 1 9;", 2, 6);
        bad("e1 0;x0 0 1 9;", 2, 6);
        bad("e1 0;m0;x0 1 1 9;", 2, 11);
        bad("e1 0;m0;x1 0 1 9;", 2, 9);
        bad("e1 0;m0;x0 1 1 9;m0;", 2, 11);
        bad(SIX + "x6 0 1 9;", 2, 24);
        bad(SIX + "x0 6 1 9;", 2, 26);
        bad(SIX + "x5 999 1 9;", 2, 26);
        bad("e1 0;m0;x0 0 1 9;", 4, 11);
        bad("e1 0;m0;x0 0", 4, 11);
        bad("e1 0;m0;x00 000 0 9;", 4, 12);
        bad(SIX + "x5 5 1 9;", 4, 26);
        bad(SIX + "x0   0 1 9;", 4, 28);
    }

    /** Section 1: a call of T minutes, 1 .. 20. */
    private static void crossingMinutes() {
        Edge.run("least and most T", "'" + TWO + "x0 1 1 9;x0 1 20 9;' = 2|crossing 0 2 = 1|crossing 1 2 = 20");
        bad(TWO + "x0 1 0 9;", 2, 16);
        bad(TWO + "x0 1 21 9;", 2, 16);
        bad(TWO + "x0 1 999 9;", 2, 16);
    }

    /** Section 1: behind CROSSING P told ahead, or 9: none; 2: a P that is neither told yet nor 9 (at its first). */
    private static void crossingBehind() {
        Edge.run("least and most P", "'" + TWO + "x0 1 1 9;x0 1 1 0;x0 1 1 0;x0 1 1 2;' = 2|crossing 0 3 = NONE"
            + "|crossing 1 3 = 0|crossing 2 3 = 0|crossing 3 3 = 2");
        Edge.run("P 9 of the last one is none", "'" + SIX + EIGHT + "' = 6|crossing 7 3 = NONE");
        Edge.run("P 6 of the last one", "'" + TWO + "x0 1 1 9;x0 1 1 0;x0 1 1 1;x0 1 1 2;x0 1 1 3;x0 1 1 4;x0 1 1 5;x0 1 1 6;' = 2"
            + "|crossing 7 3 = 6");
        bad(TWO + "x0 1 1 0;", 2, 18);
        bad(TWO + "x0 1 1 8;", 2, 18);
        bad(TWO + "x0 1 1 10;", 2, 18);
        bad(TWO + "x0 1 1 99;", 2, 18);
        bad(TWO + "x0 1 1 9;x0 1 1 1;", 2, 27);
        bad(TWO + "x0 1 1 9;x0 1 1 2;x0 1 1 9;", 2, 27);
        bad(TWO + "x0 1 1 9;x0 1 1 9;x0 1 1 9;x0 1 1 9;x0 1 1 9;x0 1 1 9;x0 1 1 9;x0 1 1 7;", 2, 81);
        bad(TWO + "x0 1 1 9;x0 1 1 9;x0 1 1 9;x0 1 1 9;x0 1 1 9;x0 1 1 9;x0 1 1 9;x0 1 1 8;", 2, 81);
    }

    /** Section 1: 6 MAKERS at most; 3: a seventh 'm' (at it). */
    private static void mostMakers() {
        Edge.run("six", "'" + SIX + "' = 6|told 2 = 6|maker 5 1 = 5|maker 6 0 = UNKNOWN");
        bad(SIX + "m0;", 3, 23);
        bad(SIX + "m", 3, 23);
        bad(SIX + "m3;", 3, 23);
        bad(SIX + "x0 1 1 9; m0;", 3, 33);
    }

    /** Section 1: 8 CROSSINGS at most; 3: a ninth 'x' (at it). */
    private static void mostCrossings() {
        Edge.run("eight", "'" + TWO + EIGHT + "' = 2|told 3 = 8|told 6 = 255|crossing 7 0 = 0|crossing 8 0 = UNKNOWN");
        good(TWO + EIGHT + "m0;", 3);
        bad(TWO + EIGHT + "x0 1 1 9;", 3, 83);
        bad(TWO + EIGHT + "x", 3, 83);
        bad(TWO + EIGHT + "x7 7 99 8;", 3, 83);
        bad(TWO + EIGHT + "m0; x", 3, 87);
    }

    /** Section 1: NUMBERS have one to three figures; 2: a NUMBER of four figures or more (at its first). */
    private static void figures() {
        good("e1 0;m0;m0;x0 1 1 9;", 2);
        good("e01 00;m00;m02;x00 01 01 09;", 2);
        good("e001 000;m000;m002;x000 001 001 009;", 2);
        Edge.run("noughts ahead", "'e003 099;m002;m001;x001 000 020 009;x000 001 001 000;' = 2|told 0 = 3|told 1 = 99"
            + "|maker 0 0 = 2|crossing 0 0 = 1|crossing 0 2 = 20|crossing 0 3 = NONE|crossing 1 3 = 0");
        bad("e0001 0;", 2, 1);
        bad("e1 0000;", 2, 3);
        bad("e1 0;m0000;", 2, 6);
        bad(TWO + "x0000 1 1 9;", 2, 12);
        bad(TWO + "x0 0001 1 9;", 2, 14);
        bad(TWO + "x0 1 0001 9;", 2, 16);
        bad(TWO + "x0 1 1 0009;", 2, 18);
        bad("e1 1000;", 2, 3);
        bad("e1 0000", 2, 3);
        bad("e1 00000000000000000000000000000000;", 2, 3);
        // 2 to the 32 and one: what an int would take for 1
        bad("e4294967297 0;", 2, 1);
        bad("e1 18446744073709551616;", 2, 3);
    }

    /** Section 1: blanks (32) may stand anywhere but within NUMBERS; two NUMBERS side by side need one. */
    private static void blanks() {
        good("e1 0;m0;m0;x0 1 1 9;", 2);
        good("  e  1  0  ;  m  0  ;  m  0  ;  x  0  1  1  9  ;  ", 2);
        bad("e1 1 0;", 1, 5);
        bad("e10;", 2, 1);
        bad("e11;", 2, 1);
        bad("e1;", 1, 2);
        // 01 is one NUMBER, so B is like it; 00 is one, so P is missing
        bad(TWO + "x01 1 9;", 4, 15);
        bad(TWO + "x00 1 9;", 1, 18);
        bad(TWO + "x0 11 9;", 2, 14);
        bad(TWO + "x0 1 2 0 9;", 2, 18);
        bad(TWO + "x0 1 1 9 9;", 1, 20);
        // only 32 is a blank
        Edge.run("9 is no blank", "+'e1'|feed 9 = 3|'0;' = -11|fault = 2");
        Edge.run("10 is no blank", "+'e1 0;'|feed 10 = 6|town = -11|fault = 5");
        Edge.run("160 is no blank", "+'e1 0;'|feed 160 = 6|town = -11|fault = 5");
        Edge.run("0 is no blank", "feed 0 = 1|'e1 0;' = -11|fault = 0");
    }

    /** Section 1: the end at the text's length: a text that is cut anywhere but behind a clause ends too soon. */
    private static void endOfText() {
        String text = "e2 15; m0 ;m1;x0  1 12 9;m2;x1 0 3 0 ; ";
        for (int length = 0; length <= text.length(); length++) {
            String cut = text.substring(0, length);
            boolean whole = cut.isBlank() || cut.trim().endsWith(";");
            LaceLines x = new LaceLines();
            int answer = Due.tell(x, cut);
            int makers = cut.length() - cut.replace("m", "").length();
            Due.is("town of '" + cut + "'", answer, whole ? makers : -11);
            Due.is("fault of '" + cut + "'", x.fault(), whole ? Due.NONE : length);
        }
    }

    /** Section 1, 1: it cannot stand there (a letter that is no word): every letter at each kind of place. */
    private static void everyLetterAtEveryPlace() {
        for (char c = 0; c <= 255; c++) {
            boolean figure = c >= '0' && c <= '9';
            int value = c - '0';
            place("", c, c == ' ' ? 0 : -11, c == ' ' ? Due.NONE : c == 'e' ? 1 : 0);
            place("e1 0;", c, c == ' ' ? 0 : c == 'e' ? -13 : -11,
                c == ' ' ? Due.NONE : c == 'm' || c == 'x' ? 6 : 5);
            boolean ear = figure && value <= 2;
            place("e1 0;m", c, figure && !ear ? -12 : -11, ear || c == ' ' ? 7 : 6);
            // behind the first figure: one more figure, the end of the clause, or a blank
            place("e1 0;m0", c, c == ';' ? 1 : figure && !ear ? -12 : -11,
                c == ';' ? Due.NONE : figure && !ear ? 6 : ear || c == ' ' ? 8 : 7);
            place("e1 0;m0 ", c, c == ';' ? 1 : -11, c == ';' ? Due.NONE : c == ' ' ? 9 : 8);
            boolean lines = figure && value >= 1 && value <= 3;
            place("e", c, figure && !lines ? -12 : -11, lines || c == ' ' ? 2 : 1);
        }
    }

    private static void place(String ahead, char c, int answer, int at) {
        LaceLines x = new LaceLines();
        Due.feed(x, ahead);
        Due.is("feed " + (int) c, x.feed(c), ahead.length() + 1);
        Due.is("town of '" + ahead + "' and letter " + (int) c, x.town(), answer);
        Due.is("fault of '" + ahead + "' and letter " + (int) c, x.fault(), at);
    }

    /** Section 1: FAULTS, at the first letter that has one, of these the least. */
    private static void leastOfSeveral() {
        // 1 ahead of 2: a NUMBER that is too long or too great where none can stand
        bad("1000", 1, 0);
        bad("e1 0 1000;", 1, 5);
        bad("e1 0;1000;", 1, 5);
        bad("e1 0;m0 3;", 1, 8);
        // 1 ahead of 3: a word again where none can stand
        bad("e e", 1, 2);
        bad("e1 e", 1, 3);
        bad("e1 0 e1 0;", 1, 5);
        bad("e1 0;m e", 1, 7);
        bad(SIX.substring(0, 22) + "m0;", 1, 22);
        bad(TWO + EIGHT.substring(0, 71) + "x", 1, 82);
        // 2 ahead of 4: a B of four figures that is like A
        bad("e1 0;m0;x0 0000 1 9;", 2, 11);
        // 2 ahead of 4: neither was told, so it is the A
        bad("e1 0;m0;x1 1 1 9;", 2, 9);
    }

    /** Section 1: at the first letter that has one, whatever comes behind it. */
    private static void firstOfSeveral() {
        bad("e4 100;", 2, 1);
        bad("e4", 2, 1);
        bad("e1 100", 2, 3);
        bad("e1 100 z", 2, 3);
        bad("e1 0;m3;z", 2, 6);
        bad("e1 0;z;m3;", 1, 5);
        bad("e1 0;m3;e1 0;", 2, 6);
        bad("e1 0;e1 0;m3;", 3, 5);
        bad("e1 0;m0;x0 0 99 8;", 4, 11);
        bad("e1 0;m0;x0 1 99 8;", 2, 11);
        bad(TWO + "x0 1 99 8;", 2, 16);
        bad(TWO + "x0 1 20 8;z", 2, 19);
        bad(TWO + "x0 1 1 9z;", 1, 19);
    }

    /** Promise 4: The letter of the FAULT of the latest town(); NONE. */
    private static void faultOfLatest() {
        Edge.run("fault", "fault = NONE|'e4 0;' = -12|fault = 1|+'e1 '|fault = 1|feed 256 = OUTSIDE|fault = 1"
            + "|'100;' = -12|fault = 3|'e1 0;' = 0|fault = NONE|'e1 0;z' = -11|fault = 5|minute 1 = 0|keep 0 = 1"
            + "|goBack 0 = 1|fault = 5|town = 0|fault = NONE");
    }

    /** Promise 3: THE TEXT (it is empty then, with a FAULT, too); all is as it was. */
    private static void faultLeavesAll() {
        Edge.run("what is left of a text is no part of the next", "'e1 0;m' = -11|told 4 = 0|'0;' = -11|fault = 0");
        Edge.run("a shorter text behind a longer one", "'e1 0;m0;m0;' = 2|'e1 0' = -11|fault = 4|'e1 0;m' = -11|fault = 6");
        Edge.run("images, steps, what lies, the book stay", LIVELY + "|told 12 = 4|'z' = -11|told 12 = 4|told 10 = 1"
            + "|told 11 = 1|undo 4 = 0|goBack 1 = 1|seed 0 = 9");
        // a fault in the last letters, with all that was read well ahead of it
        bad("e3 99;m2;m2;m2;x0 1 20 9;x1 2 20 0;z", 1, 35);
    }

    /** Promise 3: minute 0, all OPEN; nothing LIES, no BOOK; IMAGES, what could be undone are gone; THE SEED stays. */
    private static void townForgets() {
        String other = "'e1 44;m1;m0;x1 0 4 9;x0 1 3 9;'";
        Edge.alike("as if new", "seed 9|" + other, LIVELY + "|keep 0|ring 1|minute 2|" + other);
        Edge.alike("the same town again", "seed 9|'" + TWO + "x0 1 2 9;'",
            "'" + TWO + "x0 1 2 9;'|seed 9|ring 0|minute 1|keep 0|wrongNumber 0 1|lies 0 0|write 0 0|'" + TWO + "x0 1 2 9;'");
        Edge.run("one by one", LIVELY + "|told 5 = 2|told 12 = 4|" + other + " = 2|told 5 = 0|told 6 = 3|told 7 = 0|told 8 = 0"
            + "|told 9 = 0|told 10 = 0|told 11 = 0|told 12 = 0|undo 1 = NOT|goBack 0 = NOT|goBack 1 = NOT|seed 0 = 9");
    }

    /** Promise 5: 0 .. 12, OUTSIDE; each as little and as much as it can be. */
    private static void told() {
        Edge.each("told", LIVELY, "told -1 = OUTSIDE", "told 13 = OUTSIDE", "told MIN = OUTSIDE", "told MAX = OUTSIDE",
            "told 0 = 2", "told 12 = 4");
        Edge.run("letters", "told 4 = 0|feed 1 = 1|told 4 = 1|199*feed 1 = 200|told 4 = 200");
        Edge.run("sets of all", "'e3 1;m0;m0;m0;m0;m0;m0;x0 1 1 9;x2 3 1 9;x4 5 1 9;x0 1 1 9;x2 3 1 9;x4 5 1 9;x0 1 1 9;x2 3 1 9;'"
            + "|told 6 = 255|told 7 = 0|told 8 = 0|ring 0 = 1|ring 1 = 1|ring 2 = 1|told 6 = 248|told 7 = 7|told 8 = 0"
            + "|minute 1 = 7|told 6 = 248|told 7 = 0|told 8 = 7|ring 3 = 2|ring 4 = 2|ring 5 = 2|minute 1 = 63|ring 6 = 3|ring 7 = 3"
            + "|minute 1 = 255|told 6 = 0|told 7 = 0|told 8 = 255|told 9 = 16");
        Edge.run("what lies, the book", "'e1 0;m0;'|told 10 = 0|told 11 = 0|6*lies 0 0 = 6|20*write 0 0 = 20|told 10 = 6"
            + "|told 11 = 20|lies 0 0 = FULL|write 0 0 = FULL|told 10 = 6|told 11 = 20");
        Edge.run("what can be undone", "'e1 0;m0;'|told 12 = 0|minute 29 = 0|told 12 = 29|minute 1 = 0|told 12 = 30"
            + "|minute 1 = 0|told 12 = 30|minute 60 = 0|told 12 = 30");
    }

    /** Promise 6: UNKNOWN, OUTSIDE; the CROSSING that she is in (NONE). */
    private static void maker() {
        Edge.each("maker", LIVELY, "maker -1 0 = UNKNOWN", "maker 4 0 = UNKNOWN", "maker 5 0 = UNKNOWN", "maker 6 0 = UNKNOWN",
            "maker MIN 0 = UNKNOWN", "maker MAX 0 = UNKNOWN", "maker 0 -1 = OUTSIDE", "maker 0 4 = OUTSIDE",
            "maker 3 MIN = OUTSIDE", "maker 3 MAX = OUTSIDE", "maker -1 -1 = UNKNOWN", "maker 4 4 = UNKNOWN",
            "maker 0 0 = 0", "maker 3 0 = 2", "maker 0 3 = 0", "maker 3 3 = 2", "maker 3 1 = 0");
        Edge.run("the CROSSING that she is in", "'e1 0;m0;m0;m0;x0 1 2 9;'|maker 0 3 = NONE|ring 0 = 2|maker 0 3 = 0|maker 1 3 = 0"
            + "|maker 2 3 = NONE|minute 1 = 0|maker 0 3 = 0|minute 1 = 1|maker 0 3 = NONE|maker 1 3 = NONE");
        Edge.run("hung up, in none", "'e1 0;m0;m0;x0 1 2 9;'|ring 0 = 2|hangUp 0 = 0|maker 0 3 = NONE|maker 1 3 = NONE");
        Edge.run("undone, in it again", "'e1 0;m0;m0;x0 1 2 9;'|ring 0 = 2|minute 2 = 1|undo 1 = 1|maker 1 3 = 0|undo 2 = 0|maker 1 3 = NONE");
    }

    /** Promise 7: P (NONE); the minute in which it is (was) DONE (NONE: OPEN); UNKNOWN, OUTSIDE. */
    private static void crossing() {
        Edge.each("crossing", LIVELY, "crossing -1 0 = UNKNOWN", "crossing 3 0 = UNKNOWN", "crossing 8 0 = UNKNOWN",
            "crossing MIN 0 = UNKNOWN", "crossing MAX 0 = UNKNOWN", "crossing 0 -1 = OUTSIDE", "crossing 2 6 = OUTSIDE",
            "crossing 0 MIN = OUTSIDE", "crossing 0 MAX = OUTSIDE", "crossing -1 -1 = UNKNOWN", "crossing 3 6 = UNKNOWN",
            "crossing 0 3 = NONE", "crossing 1 3 = 0", "crossing 0 5 = 3", "crossing 1 5 = NONE", "crossing 2 5 = 5");
        Edge.run("how it is, and when", "'e1 0;m0;m0;x0 1 2 9;'|crossing 0 4 = 0|crossing 0 5 = NONE|minute 1 = 0|ring 0 = 3"
            + "|crossing 0 4 = 1|crossing 0 5 = 3|minute 1 = 0|crossing 0 4 = 1|hangUp 0 = 1|crossing 0 4 = 0|crossing 0 5 = NONE"
            + "|ring 0 = 4|minute 2 = 1|crossing 0 4 = 2|crossing 0 5 = 4|minute 60 = 1|crossing 0 5 = 4|undo 30 = 34"
            + "|crossing 0 4 = 2|crossing 0 5 = 4");
        Edge.run("undone", "'e1 0;m0;m0;x0 1 2 9;'|ring 0 = 2|minute 2 = 1|undo 1 = 1|crossing 0 4 = 1|crossing 0 5 = 2|undo 2 = 0"
            + "|crossing 0 4 = 0|crossing 0 5 = NONE");
    }
}
