/** Boundary cases of the seed and of images, promises 31 to 33, and what all refusals and questions leave, sentence by sentence. */
public final class ImagesEdgesTest {
    private static final String TOWN = "'e2 3;m0;m0;m2;m0;x0 1 4 9;x2 3 2 9;x1 2 3 0;'";
    private static final String BUSY = TOWN + "|seed 9|wrongNumber 0 3|ring 0|ring 1|minute 2|ring 2";

    public static void main(String[] args) {
        seedBounds();
        seedStays();
        keepUnknown();
        goBackUnknown();
        notKept();
        bothImages();
        keptAgain();
        allOfSectionTwo();
        notInImages();
        nothingUndone();
        withoutExchange();
        textsAndImages();
        Due.end();
    }

    /** Promise 31: 0 .. 2147483647; OUTSIDE; section 3: 0 at first. */
    private static void seedBounds() {
        Edge.each("seed", BUSY, "seed -1 = OUTSIDE", "seed -2 = OUTSIDE", "seed MIN = OUTSIDE", "seed 0 = 9", "seed MAX = 9");
        Edge.each("seed of a new object", "", "seed -1 = OUTSIDE", "seed MIN = OUTSIDE", "seed 0 = 0", "seed MAX = 0");
        Edge.run("what it was", "seed 1 = 0|seed 2147483647 = 1|seed -1 = OUTSIDE|seed 0 = 2147483647|seed 7 = 0|seed 7 = 7");
    }

    /** Promise 3, section 3: THE SEED stays: with a new text, a fault, a step that is undone, what is torn. */
    private static void seedStays() {
        Edge.run("a new text", "seed 77|'e1 0;' = 0|seed 78 = 77|'z' = -11|seed 79 = 78|town = 0|seed 80 = 79|tear = 0|seed 0 = 80");
        Edge.run("undone", TOWN + "|drift 3|seed 5|undo 3|seed 6 = 5");
        Edge.run("drawn on from where it was", "'e1 0;'|drift 1|'e1 0;'|drift 1|seed 0 = 1406932606");
    }

    /** Promise 32: UNKNOWN (an IMAGE that there is not): IMAGES 0, 1. */
    private static void keepUnknown() {
        Edge.each("keep", BUSY + "|keep 0|minute 1", "keep -1 = UNKNOWN", "keep 2 = UNKNOWN", "keep 3 = UNKNOWN", "keep 31 = UNKNOWN", "keep 32 = UNKNOWN",
            "keep MIN = UNKNOWN", "keep MAX = UNKNOWN", "keep 0 = 1", "keep 1 = 1");
    }

    /** Promise 33: UNKNOWN, ahead of NOT. */
    private static void goBackUnknown() {
        String[] last = {"goBack -1 = UNKNOWN", "goBack 2 = UNKNOWN", "goBack 3 = UNKNOWN", "goBack 32 = UNKNOWN", "goBack 33 = UNKNOWN", "goBack MIN = UNKNOWN",
            "goBack MAX = UNKNOWN"};
        Edge.each("goBack, both kept", BUSY + "|keep 0|minute 1|keep 1|minute 1", last);
        Edge.each("goBack, none kept", BUSY, last);
    }

    /** Promise 33: NOT: it was not kept. */
    private static void notKept() {
        Edge.each("none", BUSY, "goBack 0 = NOT", "goBack 1 = NOT");
        Edge.each("the other one", BUSY + "|keep 0|minute 1", "goBack 0 = 1", "goBack 1 = NOT");
        Edge.each("the other one", BUSY + "|keep 1|minute 1", "goBack 0 = NOT", "goBack 1 = 1");
        Edge.each("what was refused keeps nothing", BUSY + "|keep 2|keep -1", "goBack 0 = NOT", "goBack 1 = NOT");
    }

    /** Section 3: IMAGES 0, 1, each for itself; one can be gone back to again and again. */
    private static void bothImages() {
        Edge.run("to and fro", TOWN + "|minute 1|keep 0|minute 2|keep 1|minute 4|goBack 0 = 1|told 5 = 1|goBack 1 = 1|told 5 = 3|goBack 0 = 1|told 5 = 1"
            + "|minute 60|goBack 0 = 1|told 5 = 1|goBack 0 = 1|told 5 = 1");
        Edge.alike("going back to what is so", BUSY + "|keep 0", BUSY + "|keep 0|goBack 0");
        Edge.alike("from one to the other", BUSY + "|keep 0|keep 1", BUSY + "|keep 0|keep 1|minute 3|hangUp 2|goBack 1|drift 3|goBack 0");
        // what goes on behind an image is no part of it
        Edge.alike("an image stays as it was kept", BUSY + "|keep 0", BUSY + "|keep 0|minute 1|ring 2|hangUp 0|wrongNumber 0 1|drift 20|seed 3|goBack 0");
    }

    /** Promise 32: IMAGE i becomes what is so: what it was is gone. */
    private static void keptAgain() {
        Edge.run("kept again", TOWN + "|keep 0|minute 3|keep 0|minute 1|goBack 0 = 1|told 5 = 3");
        Edge.run("the other one stays", TOWN + "|keep 0|keep 1|minute 3|keep 0|goBack 1 = 1|told 5 = 0|goBack 0 = 1|told 5 = 3");
        Edge.run("one becomes the other", TOWN + "|minute 1|keep 0|minute 1|keep 1|goBack 0|keep 1|minute 5|goBack 1 = 1|told 5 = 1");
    }

    /** Section 3: IMAGES keep all of section 2, THE SEED. */
    private static void allOfSectionTwo() {
        Edge.alike("all", BUSY + "|keep 1", BUSY + "|keep 1|minute 1|wrongNumber 2 3|minute 5|ring 2|hangUp 2|seed 12|drift 9|goBack 1");
        Edge.run("one by one", BUSY + "|told 7 = 1|told 8 = 2|keep 0|minute 9|seed 12|goBack 0 = 1|told 5 = 2|told 6 = 4|told 7 = 1|told 8 = 2|told 9 = 12"
            + "|maker 0 1 = 2|maker 2 1 = 3|maker 3 1 = 0|maker 0 3 = 0|maker 2 2 = 6|crossing 0 5 = 4|crossing 1 5 = 2|crossing 2 5 = NONE|hangUp 0 = 2|seed 0 = 9");
        Edge.run("a call of an image goes on", BUSY + "|keep 0|hangUp 0|goBack 0 = 1|minute 1 = 2|minute 1 = 3");
        Edge.run("in a call again", BUSY + "|keep 0|minute 2|goBack 0 = 1|wrongNumber 0 2 = NOT|ring 2 = NOT|minute 2 = 3|ring 2 = 7");
        Edge.run("in no call again", TOWN + "|keep 0|ring 0|ring 1|goBack 0 = 1|wrongNumber 0 1 = 1|ring 0 = 4|ring 1 = 2");
    }

    /** Not of section 2: what LIES, THE BOOK, THE TEXT and its FAULT. */
    private static void notInImages() {
        Edge.run("they stay", BUSY + "|keep 0|lies 0 0|write 0 0|'e4' = -12|feed 101|goBack 0 = 1|told 10 = 1|told 11 = 1|told 4 = 1|fault = 1");
        Edge.run("they do not come back", BUSY + "|lies 0 0|write 0 0|keep 0|tear = 2|goBack 0 = 1|told 10 = 0|told 11 = 0");
    }

    /** Promises 32, 33: nothing can be undone then; what is refused leaves it. */
    private static void nothingUndone() {
        Edge.run("kept", BUSY + "|told 12 = 5|keep 0 = 1|told 12 = 0|undo 1 = NOT");
        Edge.run("gone back", BUSY + "|keep 0|minute 4|told 12 = 4|goBack 0 = 1|told 12 = 0|undo 1 = NOT");
        Edge.run("refused", BUSY + "|keep 2 = UNKNOWN|goBack 0 = NOT|goBack -1 = UNKNOWN|told 12 = 5|undo 5 = 0");
        Edge.run("anew from there", BUSY + "|minute 40|keep 0|minute 31|undo 30 = 43|undo 1 = NOT|goBack 0|minute 2|undo 2 = 42|undo 1 = NOT");
    }

    /** Promise 1, 32, 33: without an EXCHANGE there are IMAGES, too. */
    private static void withoutExchange() {
        Edge.run("a new object", "goBack 0 = NOT|keep 0 = 1|seed 5 = 0|goBack 0 = 1|seed 6 = 0|goBack 1 = NOT|minute 1 = NOT|told 0 = 0");
    }

    /** Promise 3: IMAGES are gone; with a FAULT all is as it was. */
    private static void textsAndImages() {
        Edge.run("a new text", BUSY + "|keep 0|keep 1|" + TOWN + " = 4|goBack 0 = NOT|goBack 1 = NOT");
        Edge.run("an empty text", BUSY + "|keep 0|keep 1|town = 0|goBack 0 = NOT|goBack 1 = NOT");
        Edge.run("a fault", BUSY + "|keep 0|keep 1|minute 1|'e1 0;m0;m0;x0 0' = -14|goBack 0 = 1|told 5 = 2|goBack 1 = 1|told 5 = 2");
        Edge.run("kept in the new town", BUSY + "|keep 0|" + TOWN + "|minute 3|keep 1|minute 1|goBack 0 = NOT|goBack 1 = 1|told 5 = 3");
    }
}
