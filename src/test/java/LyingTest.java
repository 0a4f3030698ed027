/** Promises 22 to 30: lies, wentWrong, sure, look, strange, ears, write, judge, tear. */
public final class LyingTest {
    /** Windows: none 1 2 0, {0} 0 2 1, {1} 1 0 2, both 0 1 2. */
    private static final String TWO = "e1 0;m0;m0;m0;x0 1 1 9;x1 2 1 9;";

    public static void main(String[] args) {
        lies();
        wentWrong();
        mostSets();
        look();
        strange();
        ears();
        book();
        tear();
        Due.end();
    }

    private static void lies() {
        LaceLines x = Due.town(TWO);
        int[] before = Due.all(x);
        Due.refused("maker 3", x, before, x.lies(3, 0), Due.UNKNOWN);
        Due.refused("maker -1", x, before, x.lies(-1, 0), Due.UNKNOWN);
        Due.refused("thread 3", x, before, x.lies(0, 3), Due.UNKNOWN);
        Due.refused("thread -1", x, before, x.lies(0, -1), Due.UNKNOWN);
        for (int i = 1; i <= 6; i++) {
            Due.is("lies " + i, x.lies(0, 1), i);
        }
        before = Due.all(x);
        Due.refused("a seventh", x, before, x.lies(0, 1), Due.FULL);
        Due.refused("unknown ahead of full", x, before, x.lies(0, 3), Due.UNKNOWN);
        Due.is("how much lies", x.told(10), 6);
    }

    private static void sets(String what, LaceLines x, int sure, int... sets) {
        Due.is(what + ": how many", x.wentWrong(Due.NONE), sets.length);
        for (int i = 0; i < sets.length; i++) {
            Due.is(what + ": " + i, x.wentWrong(i), sets[i]);
        }
        Due.is(what + ": no more", x.wentWrong(sets.length), Due.NONE);
        Due.is(what + ": -2", x.wentWrong(-2), Due.NONE);
        Due.is(what + ": sure", x.sure(), sure);
    }

    private static void wentWrong() {
        LaceLines x = Due.town(TWO);
        sets("nothing lies", x, 0, 0, 1, 2, 3);
        x.lies(0, 0);
        sets("0 on 0", x, 1, 1, 3);
        x.lies(1, 1);
        Due.is("sure without asking else", x.sure(), 3);
        sets("1 on 1", x, 3, 3);
        x.lies(2, 0);
        sets("it cannot be", x, 0);
        x.tear();
        x.lies(0, 0);
        x.lies(0, 1);
        sets("one pin with two threads", x, 0);
        x.tear();
        x.ring(0);
        x.minute(1);
        x.lies(0, 0);
        sets("whatever is so now", x, 1, 1, 3);
    }

    private static void mostSets() {
        LaceLines x = Due.town("e1 0;m0;m1;x0 1 1 9;x0 1 1 9;x0 1 1 9;x0 1 1 9;x0 1 1 9;x0 1 1 9;x0 1 1 9;x0 1 1 9;");
        sets("of eight", x, 0, 0, 1, 2, 4, 8, 16, 32, 64, 128,
            3, 5, 6, 9, 10, 12, 17, 18, 20, 24, 33, 34, 36, 40, 48,
            65, 66, 68, 72, 80, 96, 129, 130, 132, 136, 144, 160, 192);
        // with good ears an odd count of eight crossings, one of them wrong, changes the threads
        LaceLines good = Due.town("e1 0;m0;m0;x0 1 1 9;x0 1 1 9;x0 1 1 9;x0 1 1 9;");
        good.lies(0, 1);
        sets("one of four", good, 0, 1, 2, 4, 8);
        LaceLines three = Due.town("e1 0;m0;m0;m0;m0;m0;m0;x0 1 1 9;x2 3 1 9;x4 5 1 9;");
        three.lies(0, 0);
        three.lies(2, 2);
        sets("two at most", three, 3, 3);
        three.lies(4, 4);
        sets("three are too many", three, 0);
    }

    private static void look() {
        LaceLines x = Due.town(TWO);
        // pin 0: 1 0 1 0 (parts 2, 2); pin 1: 2 2 0 1 (2, 1, 1); pin 2: 0 1 2 2 (1, 1, 2)
        Due.is("of like ones the least", x.look(), 0);
        x.lies(0, 0);
        // left: {0} 0 2 1, both 0 1 2: pin 0 parts nothing
        Due.is("pin 0 is known", x.look(), 1);
        x.lies(1, 1);
        Due.is("one set only", x.look(), Due.NONE);
        x.lies(2, 0);
        Due.is("no set", x.look(), Due.NONE);
        Due.is("deaf ones part nothing", Due.town("e1 0;m0;m1;x0 1 1 9;").look(), Due.NONE);
        // none 1 0 2 ..; only the third pin parts three ways: 0-2, 1-2 with a mirrored one
        LaceLines best = Due.town("e1 0;m0;m0;m0;x0 2 1 9;x1 2 1 9;");
        // none: 2 0 1 (2 1 0 first, then 2 0 1); {0}: 0 2 1; {1}: 2 1 0; both: 0 1 2
        // pin 0: 2 0 2 0 (2); pin 1: 0 2 1 1 (2); pin 2: 1 1 0 2 (2)
        Due.is("all alike", best.look(), 0);
        best.lies(2, 1);
        Due.is("none and {0}", best.look(), 0);
        LaceLines later = Due.town("e1 0;m0;m0;m0;m0;x0 1 1 9;x2 3 1 9;x1 2 1 9;");
        // sets of 0 .. 2 of three; pins by hand: none 1 3 0 2; {0} 0 3 1 2; {1} 1 2 0 3; {2} 1 0 3 2;
        // {0,1} 0 2 1 3; {0,2} 0 1 3 2; {1,2} 1 0 2 3
        // parts: pin 0: 1 x4, 0 x3: 4; pin 1: 3 3 2 0 2 1 0: 2; pin 2: 0 1 0 3 1 3 2: 2; pin 3: 2 2 3 2 3 2 3: 4
        Due.is("pin 1 is better than pin 0", later.look(), 1);
    }

    private static void strange() {
        LaceLines x = Due.town(TWO);
        Due.is("all pairs", x.strange(Due.NONE), 3);
        Due.are("rising", new int[] {x.strange(0), x.strange(1), x.strange(2), x.strange(3), x.strange(-2)},
            1, 2, 12, Due.NONE, Due.NONE);
        // 1 2 0 becomes 1 0 2 by 1 and 2
        x.lies(1, 0);
        Due.is("one", x.strange(Due.NONE), 1);
        Due.is("1 and 2", x.strange(0), 12);
        Due.is("no more", x.strange(1), Due.NONE);
        x.tear();
        x.lies(0, 1);
        Due.is("pin 0 must stay", x.strange(Due.NONE), 1);
        x.lies(1, 2);
        Due.is("a pair must change", x.strange(Due.NONE), 0);
        Due.is("none", x.strange(0), Due.NONE);
        LaceLines six = Due.town("e1 0;m0;m0;m0;m0;m0;m0;");
        Due.is("fifteen", six.strange(Due.NONE), 15);
        Due.is("the last", six.strange(14), 45);
    }

    private static void ears() {
        LaceLines x = Due.town("e1 0;m0;m0;m0;x0 1 1 9;");
        Due.is("maker 3", x.ears(3), Due.UNKNOWN);
        Due.is("maker -1", x.ears(-1), Due.UNKNOWN);
        Due.is("nothing lies", x.ears(0), 7);
        // good 1 0 2, deaf 0 1 2, mirrored 2 1 0
        x.lies(0, 1);
        Due.is("good", x.ears(0), 1);
        x.tear();
        x.lies(1, 1);
        Due.is("deaf or mirrored", x.ears(1), 6);
        Due.is("hers does not matter", x.ears(2), 0);
        x.lies(2, 0);
        Due.is("mirrored", x.ears(0), 4);
        x.lies(0, 0);
        Due.is("none", x.ears(0), 0);
        Due.is("ears as told are the same", x.maker(0, 0), 0);
        // all ears as told but hers: a deaf one stays deaf
        LaceLines deaf = Due.town("e1 0;m0;m1;m0;x0 1 1 9;");
        deaf.lies(0, 0);
        Due.is("the other one is deaf", deaf.ears(0), 7);
        Due.is("she is it", deaf.ears(1), 2);
    }

    private static void book() {
        LaceLines x = Due.town(TWO);
        int[] before = Due.all(x);
        Due.refused("maker 3", x, before, x.write(3, 0), Due.UNKNOWN);
        Due.refused("maker -1", x, before, x.write(-1, 0), Due.UNKNOWN);
        Due.refused("thread 3", x, before, x.write(0, 3), Due.UNKNOWN);
        Due.refused("thread -1", x, before, x.write(0, -1), Due.UNKNOWN);
        Due.is("an empty book", x.judge(), Due.NONE);
        Due.is("write 0", x.write(0, 0), 1);
        Due.is("right", x.judge(), Due.NONE);
        Due.is("write 1", x.write(1, 2), 2);
        Due.is("write 2", x.write(2, 2), 3);
        Due.is("the second is wrong", x.judge(), 1);
        x.wrongNumber(1, 2);
        Due.is("now the third", x.judge(), 2);
        x.wrongNumber(0, 1);
        Due.is("the first of all", x.judge(), 0);
        x.undo(1);
        for (int i = 4; i <= 20; i++) {
            Due.is("write " + i, x.write(0, 0), i);
        }
        before = Due.all(x);
        Due.refused("a full book", x, before, x.write(0, 0), Due.FULL);
        Due.refused("unknown ahead of full", x, before, x.write(0, 3), Due.UNKNOWN);
    }

    private static void tear() {
        LaceLines x = Due.town(TWO);
        Due.is("nothing", x.tear(), 0);
        x.lies(0, 1);
        x.lies(1, 1);
        x.write(0, 2);
        Due.is("both", x.tear(), 3);
        Due.is("nothing lies", x.told(10), 0);
        Due.is("no book", x.told(11), 0);
        Due.is("nothing is wrong", x.judge(), Due.NONE);
        Due.is("all sets", x.wentWrong(Due.NONE), 4);
        Due.is("it is no step", x.told(12), 0);
        Due.is("anew", x.lies(0, 0), 1);
    }
}
