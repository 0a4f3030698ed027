/** Promises 1 to 7: a new object, feed, town, fault, told, maker, crossing. */
public final class TownTest {
    private static final String LACE =
        "e2 5;m0;m0;m1;m2;x0 1 3 9;x1 2 2 0;x2 3 4 9;x3 0 1 2;x0 1 5 3;";

    public static void main(String[] args) {
        newObject();
        feeding();
        texts();
        faults();
        faultChangesNothing();
        newTownForgets();
        asking();
        Due.end();
    }

    private static void newObject() {
        LaceLines x = new LaceLines();
        for (int what = 0; what <= 12; what++) {
            Due.is("new told " + what, x.told(what), 0);
        }
        Due.is("new fault", x.fault(), Due.NONE);
        Due.is("new maker", x.maker(0, 0), Due.UNKNOWN);
        Due.is("new crossing", x.crossing(0, 0), Due.UNKNOWN);
        Due.is("new ring", x.ring(0), Due.UNKNOWN);
        Due.is("new hangUp", x.hangUp(0), Due.UNKNOWN);
        Due.is("new minute", x.minute(1), Due.NOT);
        Due.is("new drift", x.drift(1), Due.NOT);
        Due.is("new wrongNumber", x.wrongNumber(0, 1), Due.UNKNOWN);
        Due.is("new undo", x.undo(1), Due.NOT);
        Due.is("new soonest", x.soonest(Due.NONE), Due.NOT);
        Due.is("new lines", x.lines(0), Due.NOT);
        Due.is("new chain 0", x.chain(0), Due.NONE);
        Due.is("new chain 1", x.chain(1), Due.NONE);
        Due.is("new window", x.window(0, 0), Due.UNKNOWN);
        Due.is("new gone", x.gone(0), Due.UNKNOWN);
        Due.is("new share", x.share(0), Due.UNKNOWN);
        Due.is("new gossip", x.gossip(0, 0), Due.UNKNOWN);
        Due.is("new lies", x.lies(0, 0), Due.UNKNOWN);
        Due.is("new wentWrong", x.wentWrong(Due.NONE), 1);
        Due.is("new wentWrong 0", x.wentWrong(0), 0);
        Due.is("new sure", x.sure(), 0);
        Due.is("new look", x.look(), Due.NONE);
        Due.is("new strange", x.strange(Due.NONE), 0);
        Due.is("new ears", x.ears(0), Due.UNKNOWN);
        Due.is("new write", x.write(0, 0), Due.UNKNOWN);
        Due.is("new judge", x.judge(), Due.NONE);
        Due.is("new tear", x.tear(), 0);
        Due.is("new goBack", x.goBack(0), Due.NOT);
        Due.is("new seed", x.seed(3), 0);
    }

    private static void feeding() {
        LaceLines x = new LaceLines();
        Due.is("feed -1", x.feed(-1), Due.OUTSIDE);
        Due.is("feed 256", x.feed(256), Due.OUTSIDE);
        Due.is("nothing came", x.told(4), 0);
        Due.is("feed 0", x.feed(0), 1);
        Due.is("feed 255", x.feed(255), 2);
        for (int i = 3; i <= 200; i++) {
            Due.is("feed blank", x.feed(' '), i);
        }
        Due.is("feed of a full text", x.feed(' '), Due.FULL);
        Due.is("outside comes ahead of full", x.feed(256), Due.OUTSIDE);
        Due.is("the text has", x.told(4), 200);
        Due.is("its fault", x.town(), -11);
        Due.is("at", x.fault(), 0);
        Due.is("feed again", x.feed(' '), 1);
    }

    private static void texts() {
        LaceLines x = new LaceLines();
        Due.is("makers", Due.tell(x, LACE), 4);
        Due.is("no fault", x.fault(), Due.NONE);
        Due.is("the text is empty then", x.told(4), 0);
        Due.is("blanks nearly anywhere", Due.tell(x, "  e 1  0 ; m 0;m1 ;  x 0  1 020 009 ;m 2;  "), 3);
        Due.is("T with a nought ahead", x.crossing(0, 2), 20);
        Due.is("P 009", x.crossing(0, 3), Due.NONE);
        Due.is("least", Due.tell(x, "e1 0;"), 0);
        Due.is("least: lines", x.told(0), 1);
        Due.is("most", Due.tell(x, "e3 99;m0;m1;m2;m0;m1;m2;" + "x0 1 1 9;x5 4 20 0;x0 1 1 1;x0 1 1 2;"
            + "x0 1 1 3;x0 1 1 4;x0 1 1 5;x0 1 1 6;"), 6);
        Due.is("most: crossings", x.told(3), 8);
        Due.is("most: C", x.told(1), 99);
        Due.is("an empty text", x.town(), 0);
        Due.is("no exchange", x.told(0), 0);
        Due.is("no minutes without", x.minute(1), Due.NOT);
        Due.is("blanks alone", Due.tell(x, "   "), 0);
        Due.is("no fault in them", x.fault(), Due.NONE);
    }

    private static void fault(String text, int number, int at) {
        LaceLines x = new LaceLines();
        Due.is("town of '" + text + "'", Due.tell(x, text), -10 - number);
        Due.is("fault of '" + text + "'", x.fault(), at);
    }

    private static void faults() {
        LaceLines x = new LaceLines();
        Due.is("a fault", Due.tell(x, "e1 0;e"), -13);
        Due.is("its letter", x.fault(), 5);
        Due.is("feeding says nothing of it", x.feed('e'), 1);
        Due.is("its letter still", x.fault(), 5);
        Due.is("another one", Due.tell(x, "0 0;"), -12);
        Due.is("its letter", x.fault(), 1);
        Due.is("none", Due.tell(x, "e1 0;m0;"), 1);
        Due.is("no letter", x.fault(), Due.NONE);
        // what was fed ahead, behind the end of a text, is no part of the next one
        Due.is("a long text", Due.tell(x, "e1 0;m0;"), 1);
        Due.is("a short one", Due.tell(x, "e1 0"), -11);
        Due.is("at its end", x.fault(), 4);
        Due.tell(x, "e1 01;");
        Due.is("a figure left behind", Due.tell(x, "e1 0"), -11);
        Due.tell(x, "e1 ;");
        Due.is("a mark left behind", Due.tell(x, "e1"), -11);
        Due.is("at its end", x.fault(), 2);
        fault("m0;", 1, 0);
        fault("x0 1 1 9;", 1, 0);
        fault(" z", 1, 1);
        fault("E1 0;", 1, 0);
        fault("1", 1, 0);
        fault(";", 1, 0);
        fault("e", 1, 1);
        fault("e  ", 1, 3);
        fault("e;", 1, 1);
        fault("e1;", 1, 2);
        fault("e1 0", 1, 4);
        fault("e1 0 m0;", 1, 5);
        fault("e1 0 5;", 1, 5);
        fault("e1 0 1234;", 1, 5);
        fault("e1 0;;", 1, 5);
        fault("e1 0;7", 1, 5);
        fault("e1 0;q", 1, 5);
        fault("e1 -1;", 1, 3);
        fault("e1\t0;", 1, 2);
        fault("e0 0;", 2, 1);
        fault("e4 0;", 2, 1);
        fault("e10;", 2, 1);
        fault("e0001 0;", 2, 1);
        fault("e1 100;", 2, 3);
        fault("e1 0000;", 2, 3);
        fault("e1 4294967297;", 2, 3);
        fault("e1 100", 2, 3);
        fault("e1 0;m3;", 2, 6);
        fault("e1 0;m;", 1, 6);
        fault("e1 0;e1 0;", 3, 5);
        fault("e1 0;m0;e", 3, 8);
        fault("e1 0;m0;m0;m0;m0;m0;m0;m0;", 3, 23);
        fault("e1 0;x0 1 1 9;", 2, 6);
        fault("e1 0;m0;x1 0 1 9;", 2, 9);
        fault("e1 0;m0;x0 1 1 9;", 2, 11);
        fault("e1 0;m0;x0 0 1 9;", 4, 11);
        fault("e1 0;m0;x0 00 1 9;", 4, 11);
        fault("e1 0;m0;x0 0000 1 9;", 2, 11);
        fault("e1 0;m0;x0 0", 4, 11);
        fault("e1 0;m0;m0;x0 1 0 9;", 2, 16);
        fault("e1 0;m0;m0;x0 1 21 9;", 2, 16);
        fault("e1 0;m0;m0;x0 1 1 0;", 2, 18);
        fault("e1 0;m0;m0;x0 1 1 8;", 2, 18);
        fault("e1 0;m0;m0;x0 1 1 10;", 2, 18);
        fault("e1 0;m0;m0;x0 1 1 9;x0 1 1 1;", 2, 27);
        fault("e1 0;m0;m0;x0 1 1 9;x0 1 1 ;", 1, 27);
        fault("e1 0;m0;m0;x0 1 1 9", 1, 19);
        fault("e1 0;m0;m0;x0 1 1 9;x1 0 1 0;x0 1 1 9;x0 1 1 9;x0 1 1 9;x0 1 1 9;x0 1 1 9;x0 1 1 9;x", 3, 83);
    }

    private static void faultChangesNothing() {
        LaceLines x = Due.town(LACE);
        x.ring(0);
        x.minute(4);
        x.lies(0, 1);
        x.write(1, 1);
        int[] before = Due.all(x);
        Due.is("a fault", Due.tell(x, "e1 0;m0;z"), -11);
        int[] behind = Due.all(x);
        for (int i = 0; i < before.length; i++) {
            // the place of the fault is the only thing that is new
            if (i != before.length - 6) {
                Due.is("a fault changes nothing, " + i, behind[i], before[i]);
            }
        }
        Due.is("but its place", x.fault(), 8);
        Due.is("what can be undone stays", x.undo(5), 0);
    }

    private static void newTownForgets() {
        LaceLines x = Due.town(LACE);
        x.seed(77);
        x.keep(1);
        x.ring(0);
        x.minute(3);
        x.lies(0, 1);
        x.write(0, 1);
        Due.is("told anew", Due.tell(x, "e1 2;m1;m0;x1 0 4 9;"), 2);
        Due.are("a new town", Due.all(x),
            1, 2, 2, 1, 0, 0, 1, 0, 0, 0, 0, 0, 0,
            1, 0, 0, -1, 0, 1, 0, -1,
            Due.UNKNOWN, Due.UNKNOWN, Due.UNKNOWN, Due.UNKNOWN, Due.UNKNOWN, Due.UNKNOWN, Due.UNKNOWN, Due.UNKNOWN,
            Due.UNKNOWN, Due.UNKNOWN, Due.UNKNOWN, Due.UNKNOWN, Due.UNKNOWN, Due.UNKNOWN, Due.UNKNOWN, Due.UNKNOWN,
            1, 0, 4, -1, 0, -1,
            Due.UNKNOWN, Due.UNKNOWN, Due.UNKNOWN, Due.UNKNOWN, Due.UNKNOWN, Due.UNKNOWN,
            Due.UNKNOWN, Due.UNKNOWN, Due.UNKNOWN, Due.UNKNOWN, Due.UNKNOWN, Due.UNKNOWN,
            Due.UNKNOWN, Due.UNKNOWN, Due.UNKNOWN, Due.UNKNOWN, Due.UNKNOWN, Due.UNKNOWN,
            Due.UNKNOWN, Due.UNKNOWN, Due.UNKNOWN, Due.UNKNOWN, Due.UNKNOWN, Due.UNKNOWN,
            Due.UNKNOWN, Due.UNKNOWN, Due.UNKNOWN, Due.UNKNOWN, Due.UNKNOWN, Due.UNKNOWN,
            Due.UNKNOWN, Due.UNKNOWN, Due.UNKNOWN, Due.UNKNOWN, Due.UNKNOWN, Due.UNKNOWN,
            Due.UNKNOWN, Due.UNKNOWN, Due.UNKNOWN, Due.UNKNOWN, Due.UNKNOWN, Due.UNKNOWN,
            -1, 2, 0, -1, 4, 1);
        Due.is("images are gone", x.goBack(1), Due.NOT);
        Due.is("nothing is undone", x.undo(1), Due.NOT);
        Due.is("the seed stays", x.seed(0), 77);
        x.ring(0);
        Due.is("told anew while a call goes on", Due.tell(x, "e1 0;m0;m0;x0 1 3 9;x0 1 2 9;"), 2);
        Due.is("none is rung", x.told(7), 0);
        Due.is("she is in no call", x.wrongNumber(0, 1), 1);
        Due.is("the line is free", x.ring(1), 2);
        Due.is("told anew while she calls", Due.tell(x, "e1 44;m0;m0;x0 1 3 9;"), 2);
        Due.is("she can call", x.ring(0), 3);
        Due.is("an empty text", x.town(), 0);
        for (int what = 0; what <= 12; what++) {
            Due.is("nothing is told: " + what, x.told(what), 0);
        }
    }

    private static void asking() {
        LaceLines x = Due.town(LACE);
        x.ring(0);
        Due.is("maker 1 is in call 0", x.maker(1, 3), 0);
        x.ring(2);
        x.minute(3);
        x.lies(0, 0);
        x.write(0, 0);
        x.write(0, 1);
        x.feed('e');
        Due.are("told", new int[] {x.told(0), x.told(1), x.told(2), x.told(3), x.told(4), x.told(5), x.told(6),
            x.told(7), x.told(8), x.told(9), x.told(10), x.told(11), x.told(12)},
            2, 5, 4, 5, 1, 3, 26, 4, 1, 30, 1, 2, 5);
        Due.is("told -1", x.told(-1), Due.OUTSIDE);
        Due.is("told 13", x.told(13), Due.OUTSIDE);
        Due.are("maker 1", new int[] {x.maker(1, 0), x.maker(1, 1), x.maker(1, 2), x.maker(1, 3)}, 0, 0, 15, -1);
        Due.are("maker 3", new int[] {x.maker(3, 0), x.maker(3, 1), x.maker(3, 2), x.maker(3, 3)}, 2, 3, 0, 2);
        Due.is("maker -1", x.maker(-1, 9), Due.UNKNOWN);
        Due.is("maker 4", x.maker(4, 0), Due.UNKNOWN);
        Due.is("maker's what -1", x.maker(0, -1), Due.OUTSIDE);
        Due.is("maker's what 4", x.maker(0, 4), Due.OUTSIDE);
        Due.are("crossing 0", six(x, 0), 0, 1, 3, -1, 2, 3);
        Due.are("crossing 2", six(x, 2), 2, 3, 4, -1, 1, 4);
        Due.are("crossing 4", six(x, 4), 0, 1, 5, 3, 0, -1);
        Due.is("crossing -1", x.crossing(-1, 0), Due.UNKNOWN);
        Due.is("crossing 5", x.crossing(5, 6), Due.UNKNOWN);
        Due.is("crossing's what -1", x.crossing(0, -1), Due.OUTSIDE);
        Due.is("crossing's what 6", x.crossing(0, 6), Due.OUTSIDE);
    }

    private static int[] six(LaceLines x, int c) {
        int[] row = new int[6];
        for (int what = 0; what < 6; what++) {
            row[what] = x.crossing(c, what);
        }
        return row;
    }
}
