/** Promises 8 to 13: ring, hangUp, minute, wrongNumber, drift, undo. */
public final class CallsTest {
    public static void main(String[] args) {
        ringing();
        linesTaken();
        ears();
        hangingUp();
        minutes();
        wrongNumbers();
        drifting();
        undoing();
        undoneKept();
        Due.end();
    }

    private static void ringing() {
        LaceLines x = Due.town("e3 1;m0;m0;m0;m0;x0 1 2 9;x1 2 5 9;x2 3 1 0;");
        int[] before = Due.all(x);
        Due.refused("ring -1", x, before, x.ring(-1), Due.UNKNOWN);
        Due.refused("ring 3", x, before, x.ring(3), Due.UNKNOWN);
        Due.refused("its P is open", x, before, x.ring(2), Due.NOT);
        Due.is("ring 0", x.ring(0), 2);
        before = Due.all(x);
        Due.refused("it is rung", x, before, x.ring(0), Due.NOT);
        Due.refused("a maker is in a call", x, before, x.ring(1), Due.NOT);
        Due.refused("its P is rung only", x, before, x.ring(2), Due.NOT);
        Due.is("two minutes", x.minute(2), 1);
        Due.is("it is done", x.ring(0), Due.NOT);
        Due.is("behind it", x.ring(2), 3);
        Due.is("2 is in a call", x.ring(1), Due.NOT);
        Due.is("one minute", x.minute(1), 5);
        Due.is("from minute 3", x.ring(1), 8);
    }

    private static void linesTaken() {
        String tail = "m0;m0;m0;m0;m0;m0;x0 1 9 9;x2 3 9 9;x4 5 9 9;";
        for (int lines = 1; lines <= 3; lines++) {
            LaceLines x = Due.town("e" + lines + " 0;" + tail);
            for (int c = 0; c < 3; c++) {
                Due.is(lines + " lines, ring " + c, x.ring(c), c < lines ? 9 : Due.NOT);
            }
        }
    }

    /** One call of 0 with 1 in a town of three, or two: what lies on the pins behind it. */
    private static void threads(String makers, String call, int... want) {
        LaceLines x = Due.town("e1 0;" + makers + call);
        x.ring(0);
        x.minute(1);
        for (int m = 0; m < want.length; m++) {
            Due.is(makers + call + " pin " + m, x.maker(m, 1), want[m]);
        }
    }

    private static void ears() {
        threads("m0;m0;m2;", "x0 1 1 9;", 1, 0, 2);
        threads("m1;m0;m0;", "x0 1 1 9;", 0, 1, 2);
        threads("m0;m1;m0;", "x0 1 1 9;", 0, 1, 2);
        threads("m2;m0;m0;", "x0 1 1 9;", 2, 1, 0);
        threads("m0;m2;m1;", "x0 1 1 9;", 2, 1, 0);
        threads("m2;m2;m0;", "x0 1 1 9;", 2, 1, 0);
        threads("m2;m1;m0;", "x0 1 1 9;", 0, 1, 2);
        threads("m1;m2;m0;", "x0 1 1 9;", 0, 1, 2);
        threads("m2;m0;m0;", "x1 0 1 9;", 0, 1, 2);
        threads("m2;m0;m0;", "x2 0 1 9;", 0, 2, 1);
        threads("m2;m0;m0;", "x0 2 1 9;", 0, 1, 2);
        threads("m0;m0;m2;", "x1 2 1 9;", 1, 0, 2);
        threads("m2;m0;", "x0 1 1 9;", 0, 1);
        // a maker told behind the crossing is behind B, too
        threads("m2;m0;", "x0 1 1 9;m0;", 2, 1, 0);
        // two that are over in one minute: rising, 0 with 2 and then 2 with 3
        LaceLines x = Due.town("e2 0;m0;m2;m0;m0;x0 1 2 9;x2 3 1 9;");
        x.ring(0);
        x.minute(1);
        x.ring(1);
        Due.is("both over", x.minute(1), 3);
        Due.are("rising", pins(x, 4), 2, 1, 3, 0);
    }

    private static int[] pins(LaceLines x, int makers) {
        int[] row = new int[makers];
        for (int m = 0; m < makers; m++) {
            row[m] = x.maker(m, 1);
        }
        return row;
    }

    private static void hangingUp() {
        LaceLines x = Due.town("e1 7;m0;m0;m0;x0 1 5 9;x1 2 3 9;");
        int[] before = Due.all(x);
        Due.refused("hangUp 2", x, before, x.hangUp(2), Due.UNKNOWN);
        Due.refused("hangUp -1", x, before, x.hangUp(-1), Due.UNKNOWN);
        Due.refused("it is open", x, before, x.hangUp(0), Due.NOT);
        x.ring(0);
        Due.is("nothing went by", x.hangUp(0), 0);
        Due.is("nothing paid", x.told(9), 0);
        x.minute(2);
        x.ring(0);
        x.minute(4);
        Due.is("nothing paid yet", x.told(9), 0);
        Due.is("four went by", x.hangUp(0), 4);
        Due.is("0 pays", x.maker(0, 2), 28);
        Due.is("1 pays", x.maker(1, 2), 28);
        Due.is("2 does not", x.maker(2, 2), 0);
        Due.is("it is open again", x.crossing(0, 4), 0);
        Due.is("and has no end", x.crossing(0, 5), Due.NONE);
        Due.is("she is in no call", x.maker(0, 3), Due.NONE);
        Due.are("threads stay", pins(x, 3), 0, 1, 2);
        Due.is("the line is free", x.ring(1), 9);
        x.minute(3);
        Due.is("it is done", x.hangUp(1), Due.NOT);
        Due.is("all of it is paid", x.told(9), 98);
        Due.is("from the beginning again", x.ring(0), 14);
    }

    private static void minutes() {
        LaceLines x = Due.town("e1 1;m0;m0;x0 1 20 9;");
        int[] before = Due.all(x);
        Due.refused("minute 0", x, before, x.minute(0), Due.OUTSIDE);
        Due.refused("minute 61", x, before, x.minute(61), Due.OUTSIDE);
        Due.refused("minute -1", x, before, x.minute(-1), Due.OUTSIDE);
        Due.is("outside ahead of not", new LaceLines().minute(61), Due.OUTSIDE);
        Due.is("not", new LaceLines().minute(60), Due.NOT);
        x.ring(0);
        Due.is("19", x.minute(19), 0);
        Due.is("20", x.minute(1), 1);
        Due.is("all that are done, not the new ones", x.minute(60), 1);
        Due.is("minutes", x.told(5), 80);
        Due.is("an exchange without makers", Due.town("e1 0;").minute(1), 0);
        full();
    }

    /** Far beyond the 512 calls: only that the bound is there. */
    private static void full() {
        LaceLines x = Due.town("e1 0;m0;m0;x0 1 20 9;");
        for (int i = 0; i < 1500; i++) {
            x.minute(60);
        }
        Due.is("at 90000", x.told(5), 90000);
        Due.is("not above", x.drift(1), 0);
        Due.is("above", x.minute(1), Due.FULL);
        Due.is("drift above", x.drift(1), Due.FULL);
        Due.is("outside ahead of full", x.minute(0), Due.OUTSIDE);
    }

    private static void wrongNumbers() {
        LaceLines x = Due.town("e1 3;m1;m0;m2;x0 1 2 9;");
        int[] before = Due.all(x);
        Due.refused("a twice", x, before, x.wrongNumber(1, 1), Due.UNKNOWN);
        Due.refused("a -1", x, before, x.wrongNumber(-1, 1), Due.UNKNOWN);
        Due.refused("b 3", x, before, x.wrongNumber(1, 3), Due.UNKNOWN);
        Due.is("ears do not matter", x.wrongNumber(0, 2), 2);
        Due.are("changed", pins(x, 3), 2, 1, 0);
        x.ring(0);
        before = Due.all(x);
        Due.refused("0 is in a call", x, before, x.wrongNumber(0, 2), Due.NOT);
        Due.refused("1 is in a call", x, before, x.wrongNumber(2, 1), Due.NOT);
        Due.refused("unknown ahead of not", x, before, x.wrongNumber(0, 3), Due.UNKNOWN);
        x.minute(2);
        Due.is("not any more", x.wrongNumber(2, 1), 1);
        Due.is("nobody pays for it", x.told(9), 12);
    }

    private static void drifting() {
        LaceLines x = Due.town("e1 0;m0;m0;m0;x0 1 2 9;x1 2 3 9;");
        int[] before = Due.all(x);
        Due.refused("drift 0", x, before, x.drift(0), Due.OUTSIDE);
        Due.refused("drift 61", x, before, x.drift(61), Due.OUTSIDE);
        Due.is("not", new LaceLines().drift(1), Due.NOT);
        Due.is("outside ahead of not", new LaceLines().drift(61), Due.OUTSIDE);
        Due.is("refused ones draw nothing", x.seed(0), 0);
        // 12345 / 65536 is 0: crossing 0 is rung in minute 0
        Due.is("drift 1", x.drift(1), 0);
        Due.is("the seed", x.seed(12345), 12345);
        Due.is("rung", x.told(7), 1);
        Due.is("a ring and a minute", x.told(12), 2);
        // 12345 * 1103515245 + 12345 over 2 to the 31 leaves 1406932606; / 65536 is 21468, over 3 leaves 0
        Due.is("drift 1 more", x.drift(1), 1);
        Due.is("the seed goes on", x.seed(12345), 1406932606);
        Due.is("what cannot be rung is no step", x.told(12), 3);
        for (int seed = 0; seed < 300; seed++) {
            LaceLines drawn = Due.town("e1 0;m0;m0;m0;x0 1 5 9;x1 2 5 9;");
            drawn.seed(seed * 7919);
            drawn.drift(1);
            long next = (seed * 7919L * 1103515245L + 12345L) % 2147483648L;
            int draw = (int) (next / 65536 % 3);
            Due.is("drawn from " + seed, drawn.told(7), draw < 2 ? 1 << draw : 0);
            Due.is("the seed then", drawn.seed(0), next);
        }
        // a town without crossings draws, too
        LaceLines bare = Due.town("e1 0;");
        Due.is("bare", bare.drift(2), 0);
        Due.is("two draws", bare.seed(0), 1406932606);
    }

    private static void undoing() {
        LaceLines x = Due.town("e1 7;m0;m0;m0;x0 1 5 9;x1 2 1 9;");
        int[] begin = Due.all(x);
        Due.refused("undo 0", x, begin, x.undo(0), Due.OUTSIDE);
        Due.refused("undo 31", x, begin, x.undo(31), Due.OUTSIDE);
        Due.refused("undo 1", x, begin, x.undo(1), Due.NOT);
        x.ring(0);
        x.minute(2);
        int[] rung = Due.all(x);
        x.hangUp(0);
        int[] open = Due.all(x);
        x.wrongNumber(0, 2);
        Due.is("five steps", x.told(12), 5);
        Due.is("not so many", x.undo(6), Due.NOT);
        Due.is("the wrong number", x.undo(1), 2);
        Due.are("open again", Due.all(x), open);
        Due.is("the hanging up", x.undo(1), 2);
        Due.are("rung again", Due.all(x), rung);
        Due.is("it goes on", x.minute(3), 1);
        Due.is("the call that was done", x.undo(3), 2);
        Due.are("rung again", Due.all(x), rung);
        Due.is("a minute", x.undo(1), 1);
        Due.is("all of it", x.undo(2), 0);
        Due.are("as at the beginning", Due.all(x), begin);
        x.ring(0);
        x.minute(1);
        x.undo(2);
        Due.is("she is in no call: another rings", x.ring(1), 1);
        x.undo(1);
        x.ring(0);
        x.hangUp(0);
        x.undo(1);
        Due.is("she is in the call again", x.wrongNumber(0, 2), Due.NOT);
        x.undo(1);
        Due.are("as at the beginning", Due.all(x), begin);
        x.minute(1);
        x.ring(0);
        x.hangUp(0);
        x.minute(2);
        x.ring(0);
        Due.is("another end", x.crossing(0, 5), 8);
        x.undo(4);
        Due.is("the end that it had", x.crossing(0, 5), 6);
        x.undo(2);
        Due.are("as at the beginning again", Due.all(x), begin);
        x.lies(0, 0);
        x.write(0, 0);
        x.drift(3);
        int seed = x.seed(5);
        Due.is("drift is undone", x.undo(x.told(12)), 0);
        Due.is("the seed stays", x.seed(seed), 5);
        Due.is("what lies stays", x.told(10), 1);
        Due.is("the book stays", x.told(11), 1);
    }

    private static void undoneKept() {
        LaceLines x = Due.town("e1 1;m0;m0;x0 1 4 9;");
        x.wrongNumber(0, 1);
        x.minute(29);
        Due.is("30", x.told(12), 30);
        x.ring(0);
        Due.is("30 at most", x.told(12), 30);
        Due.is("not 31", x.undo(31), Due.OUTSIDE);
        Due.is("30 back", x.undo(30), 0);
        Due.is("the oldest stays done", x.maker(0, 1), 1);
        Due.is("no more", x.undo(1), Due.NOT);
        x.minute(60);
        x.minute(7);
        Due.is("round", x.undo(13), 54);
        x.ring(0);
        x.minute(2);
        Due.is("20 left", x.told(12), 20);
        Due.is("round again", x.undo(20), 37);
    }
}
