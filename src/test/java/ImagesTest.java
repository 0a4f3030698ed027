/** Promises 31 to 33: seed, keep, goBack. */
public final class ImagesTest {
    public static void main(String[] args) {
        seed();
        images();
        refusals();
        Due.end();
    }

    private static void seed() {
        LaceLines x = new LaceLines();
        Due.is("at first", x.seed(2147483647), 0);
        Due.is("what it was", x.seed(5), 2147483647);
        Due.is("below 0", x.seed(-1), Due.OUTSIDE);
        Due.is("far below 0", x.seed(Integer.MIN_VALUE), Due.OUTSIDE);
        Due.is("it stayed", x.seed(2147483647), 5);
        Due.tell(x, "e1 0;");
        x.drift(1);
        // (2 to the 31 less 1) times 1103515245 and 12345, left over: 12345 less 1103515245, and 2 to the 31
        Due.is("drawn from the greatest", x.seed(0), 1043980748);
    }

    private static void images() {
        LaceLines x = Due.town("e2 3;m0;m0;m0;m0;x0 1 4 9;x2 3 2 9;x1 2 3 0;");
        x.seed(9);
        x.ring(0);
        x.ring(1);
        x.minute(3);
        Due.is("keep 0", x.keep(0), 1);
        Due.is("nothing can be undone", x.told(12), 0);
        Due.is("undo", x.undo(1), Due.NOT);
        int[] first = Due.all(x);
        x.minute(1);
        x.wrongNumber(0, 3);
        x.seed(10);
        Due.is("keep 1", x.keep(1), 1);
        int[] second = Due.all(x);
        x.ring(2);
        x.minute(2);
        x.hangUp(2);
        x.seed(11);
        Due.is("goBack 0", x.goBack(0), 1);
        Due.are("as kept", Due.all(x), first);
        Due.is("with its seed", x.seed(12), 9);
        Due.is("nothing can be undone", x.undo(1), Due.NOT);
        Due.is("it goes on from there", x.minute(1), 3);
        Due.is("goBack 1", x.goBack(1), 1);
        Due.are("as kept", Due.all(x), second);
        Due.is("with its seed", x.seed(12), 10);
        x.lies(0, 0);
        x.write(1, 1);
        Due.is("goBack 0 again", x.goBack(0), 1);
        Due.is("what lies stays", x.told(10), 1);
        Due.is("the book stays", x.told(11), 1);
        x.minute(1);
        x.keep(0);
        x.minute(5);
        x.goBack(0);
        Due.is("an image becomes another", x.told(5), 4);
    }

    private static void refusals() {
        LaceLines x = Due.town("e1 1;m0;m0;x0 1 3 9;");
        x.ring(0);
        x.minute(1);
        int[] before = Due.all(x);
        Due.refused("keep -1", x, before, x.keep(-1), Due.UNKNOWN);
        Due.refused("keep 2", x, before, x.keep(2), Due.UNKNOWN);
        Due.refused("goBack -1", x, before, x.goBack(-1), Due.UNKNOWN);
        Due.refused("goBack 2", x, before, x.goBack(2), Due.UNKNOWN);
        Due.refused("not kept", x, before, x.goBack(0), Due.NOT);
        x.keep(0);
        before = Due.all(x);
        Due.refused("the other one was not kept", x, before, x.goBack(1), Due.NOT);
        LaceLines bare = new LaceLines();
        Due.is("keep without an exchange", bare.keep(1), 1);
        Due.is("goBack without one", bare.goBack(1), 1);
    }
}
