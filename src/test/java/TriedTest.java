/** Promises 14 to 21: soonest, lines, chain, window, gone, share, engaged, gossip. */
public final class TriedTest {
    private static final String LACE =
        "e2 5;m0;m0;m1;m2;x0 1 3 9;x1 2 2 0;x2 3 4 9;x3 0 1 2;x0 1 5 3;";

    public static void main(String[] args) {
        soonest();
        tooMany();
        lines();
        chain();
        window();
        gone();
        share();
        engaged();
        gossip();
        Due.end();
    }

    private static void order(String what, LaceLines x, int minutes, int... order) {
        int[] before = Due.all(x);
        Due.is(what + ": minutes", x.soonest(Due.NONE), minutes);
        for (int i = 0; i < order.length; i++) {
            Due.is(what + ": order " + i, x.soonest(i), order[i]);
        }
        Due.is(what + ": not so many", x.soonest(order.length), Due.NONE);
        Due.is(what + ": -2", x.soonest(-2), Due.NONE);
        Due.are(what + ": nothing changes", Due.all(x), before);
    }

    private static void soonest() {
        Due.is("no exchange", new LaceLines().soonest(0), Due.NOT);
        order("nothing to do", Due.town("e1 0;"), 0);
        order("of like ones the first", Due.town("e3 0;m0;m0;m0;m0;x0 1 2 9;x2 3 2 9;"), 2, 0, 1);
        // one line: 0 (1) and 1 (2) and 2 (4) behind 1, all share no more: any order that has all is 7
        order("one line", Due.town("e1 0;m0;m0;x0 1 1 9;x0 1 2 9;x0 1 4 1;"), 7, 0, 1, 2);
        // two lines: the long one behind 1 must begin early: 1 ahead of 0
        LaceLines x = Due.town("e2 0;m0;m0;m0;m0;x0 1 5 9;x1 2 1 9;x2 3 9 1;");
        order("1 ahead of 0", x, 10, 1, 0, 2);
        Due.is("ring the other one", x.ring(0), 5);
        order("rung ones go on", x, 15, 1, 2);
        x.minute(3);
        order("from now", x, 12, 1, 2);
        x.minute(2);
        order("one is done", x, 10, 1, 2);
        x.ring(1);
        x.minute(1);
        x.ring(2);
        order("only rung ones", x, 9);
        x.minute(9);
        order("all done", x, 0);
        // maker 0 is in all of 0 .. 4; nine minutes wait for 4, so it goes first
        order("4 first of six", Due.town("e2 0;m0;m0;m0;m0;m0;x0 1 2 9;x0 1 2 9;x0 1 2 9;x0 1 2 9;x0 2 1 9;x3 4 9 4;"),
            10, 4, 0, 1, 2, 3, 5);
        order("the long one ahead of a short one", Due.town("e2 0;m0;m0;m0;m0;m0;m0;x0 1 1 9;x2 3 1 9;x4 5 2 9;"), 2, 0, 2, 1);
        // 3 and 5 share a maker: 5 ends at 11 at the soonest, if 2 is done at 2; 0 may go ahead of it, 1 not
        order("2 ahead of 1", Due.town("e3 0;m0;m0;m0;m0;m0;m0;x0 1 1 9;x0 2 1 9;x0 3 1 9;x1 4 1 0;x2 5 5 1;x3 4 9 2;"),
            11, 0, 2, 1, 3, 4, 5);
        order("a row", Due.town("e1 0;m0;m0;m0;m0;x0 1 1 9;x0 1 1 0;x0 1 1 1;x0 1 1 2;"), 4, 0, 1, 2, 3);
        // a greedy order rings what it can at once, though waiting were better
        order("no waiting", Due.town("e1 0;m0;m0;m0;x0 1 3 9;x1 2 4 9;"), 7, 0, 1);
    }

    private static void tooMany() {
        LaceLines x = Due.town("e1 0;m0;m0;x0 1 1 9;x0 1 1 9;x0 1 1 9;x0 1 1 9;x0 1 1 9;x0 1 1 9;x0 1 1 9;");
        int[] before = Due.all(x);
        Due.refused("seven open: soonest", x, before, x.soonest(Due.NONE), Due.NOT);
        Due.refused("seven open: lines", x, before, x.lines(200), Due.NOT);
        Due.refused("seven open: gossip", x, before, x.gossip(0, 1), Due.NOT);
        Due.is("outside first: lines", x.lines(201), Due.OUTSIDE);
        Due.is("outside first: gossip", x.gossip(0, 100), Due.OUTSIDE);
        Due.is("unknown first: gossip", x.gossip(2, 100), Due.UNKNOWN);
        x.ring(6);
        order("six open", x, 7, 0, 1, 2, 3, 4, 5);
        Due.is("lines of six", x.lines(7), 1);
        Due.is("gossip of six", x.gossip(0, 1), 3);
    }

    private static void lines() {
        LaceLines x = Due.town("e1 0;m0;m0;m0;m0;m0;m0;x0 1 4 9;x2 3 4 9;x4 5 4 9;");
        Due.is("-1", x.lines(-1), Due.OUTSIDE);
        Due.is("201", x.lines(201), Due.OUTSIDE);
        Due.is("outside ahead of not", new LaceLines().lines(201), Due.OUTSIDE);
        Due.is("no exchange", new LaceLines().lines(200), Due.NOT);
        Due.is("3", x.lines(3), Due.NONE);
        Due.is("4", x.lines(4), 3);
        Due.is("7", x.lines(7), 3);
        Due.is("8", x.lines(8), 2);
        Due.is("11", x.lines(11), 2);
        Due.is("12", x.lines(12), 1);
        Due.is("200", x.lines(200), 1);
        Due.is("as many as there are told", x.soonest(Due.NONE), 12);
        x.ring(0);
        x.minute(1);
        Due.is("rung ones go on", x.lines(3), Due.NONE);
        Due.is("the others beside it", x.lines(4), 3);
        Due.is("nothing to do", Due.town("e3 0;").lines(0), 1);
    }

    private static void chain() {
        LaceLines x = Due.town(LACE);
        Due.is("minutes", x.chain(0), 10);
        Due.is("last", x.chain(1), 4);
        Due.is("-1", x.chain(-1), Due.OUTSIDE);
        Due.is("2", x.chain(2), Due.OUTSIDE);
        LaceLines like = Due.town("e1 0;m0;m0;x0 1 3 9;x0 1 5 9;x0 1 2 0;x0 1 1 0;");
        Due.is("like ones: minutes", like.chain(0), 5);
        Due.is("like ones: the least", like.chain(1), 1);
        LaceLines one = Due.town("e1 0;m0;m0;x0 1 3 9;");
        Due.is("one: minutes", one.chain(0), 3);
        Due.is("one: last", one.chain(1), 0);
        LaceLines eight = Due.town("e1 0;m0;m0;x0 1 20 9;x0 1 20 0;x0 1 20 1;x0 1 20 2;x0 1 20 3;x0 1 20 4;"
            + "x0 1 20 5;x0 1 20 6;");
        Due.is("eight: minutes", eight.chain(0), 160);
        Due.is("eight: last", eight.chain(1), 7);
        like.ring(1);
        like.minute(5);
        Due.is("done ones count", like.chain(0), 5);
        LaceLines none = Due.town("e1 0;m0;");
        Due.is("none: minutes", none.chain(0), Due.NONE);
        Due.is("none: last", none.chain(1), Due.NONE);
        Due.is("no exchange: minutes", new LaceLines().chain(0), Due.NONE);
        Due.is("no exchange: last", new LaceLines().chain(1), Due.NONE);
        Due.is("a town with crossings before", Due.tell(one, "e1 0;m0;m0;"), 2);
        Due.is("then none: minutes", one.chain(0), Due.NONE);
        Due.is("then none: last", one.chain(1), Due.NONE);
        Due.is("outside without an exchange", new LaceLines().chain(2), Due.OUTSIDE);
    }

    private static void window() {
        // 0 with 1: 1 0 2; 1 with 2: 1 2 0
        LaceLines x = Due.town("e1 0;m0;m0;m0;x0 1 1 9;x1 2 1 9;");
        Due.are("none wrong", shown(x, 0), 1, 2, 0);
        Due.are("0 wrong", shown(x, 1), 0, 2, 1);
        Due.are("1 wrong", shown(x, 2), 1, 0, 2);
        Due.are("all wrong", shown(x, 3), 0, 1, 2);
        Due.is("maker 3", x.window(3, 0), Due.UNKNOWN);
        Due.is("maker -1", x.window(-1, 0), Due.UNKNOWN);
        Due.is("a bit of no crossing", x.window(0, 4), Due.UNKNOWN);
        Due.is("a bit of no crossing among others", x.window(0, 7), Due.UNKNOWN);
        Due.is("below 0", x.window(0, -1), Due.UNKNOWN);
        x.wrongNumber(0, 2);
        x.ring(1);
        x.minute(1);
        Due.are("from the beginning, whatever is so", shown(x, 0), 1, 2, 0);
        LaceLines heard = Due.town("e1 0;m2;m0;m0;m1;x0 1 1 9;x3 2 1 9;");
        Due.are("ears as told", shown(heard, 0), 2, 1, 0);
        LaceLines eight = Due.town("e1 0;m0;m0;x0 1 1 9;x0 1 1 9;x0 1 1 9;x0 1 1 9;x0 1 1 9;x0 1 1 9;x0 1 1 9;x0 1 1 9;");
        Due.is("all eight", eight.window(0, 255), 0);
        Due.is("seven", eight.window(0, 127), 1);
        Due.is("a ninth", eight.window(0, 256), Due.UNKNOWN);
    }

    private static int[] shown(LaceLines x, int set) {
        return new int[] {x.window(0, set), x.window(1, set), x.window(2, set)};
    }

    private static void gone() {
        LaceLines x = Due.town("e1 0;m0;m0;m0;m0;x0 1 1 9;x1 2 1 9;x2 3 1 0;x1 3 1 2;");
        Due.is("0", x.gone(0), 13);
        Due.is("1", x.gone(1), 15);
        Due.is("2", x.gone(2), 14);
        Due.is("3", x.gone(3), 12);
        Due.is("4", x.gone(4), Due.UNKNOWN);
        Due.is("-1", x.gone(-1), Due.UNKNOWN);
        Due.is("none of hers", Due.town("e1 0;m0;m0;m0;x0 1 1 9;").gone(2), 0);
        // more behind NONE than bit 31 could tell
        Due.is("P 9 is behind none", Due.town("e1 0;m0;m0;m0;x0 1 1 9;x1 2 1 9;").gone(0), 1);
    }

    private static void share() {
        LaceLines x = Due.town("e1 99;m0;m0;m0;x0 1 2 9;x1 2 1 9;");
        Due.is("nothing paid", x.share(0), 0);
        x.ring(0);
        x.minute(1);
        Due.is("nothing paid yet", x.share(0), 0);
        x.minute(1);
        Due.is("half", x.share(0), 500);
        x.ring(1);
        x.minute(1);
        Due.is("0", x.share(0), 333);
        Due.is("1", x.share(1), 500);
        Due.is("2", x.share(2), 166);
        Due.is("3", x.share(3), Due.UNKNOWN);
        Due.is("-1", x.share(-1), Due.UNKNOWN);
        LaceLines seventh = Due.town("e1 4;m0;m0;m0;x0 1 2 9;x1 2 5 0;");
        seventh.ring(0);
        seventh.minute(2);
        seventh.ring(1);
        seventh.minute(5);
        Due.is("a seventh", seventh.share(0), 142);
        // hung up again and again: what is paid goes above what an int's thousandfold holds
        LaceLines dear = Due.town("e1 99;m0;m0;m0;x0 1 20 9;x0 2 1 9;");
        for (int i = 0; i < 1200; i++) {
            dear.ring(0);
            dear.minute(19);
            dear.hangUp(0);
        }
        Due.is("paid", dear.maker(0, 2), 2257200);
        Due.is("half of much", dear.share(0), 500);
        Due.is("without cost", cheap().share(0), 0);
    }

    private static LaceLines cheap() {
        LaceLines x = Due.town("e1 0;m0;m0;x0 1 1 9;");
        x.ring(0);
        x.minute(1);
        return x;
    }

    private static void engaged() {
        LaceLines x = new LaceLines();
        Due.is("no try", x.engaged(0, 0), 0);
        Due.is("always free", x.engaged(1, 0), 1000000000);
        Due.is("never free", x.engaged(30, 100), 0);
        Due.is("1 of 99", x.engaged(1, 99), 10000000);
        Due.is("3 of 50", x.engaged(3, 50), 875000000);
        // 1000000000, 330000000, 108900000, 35937000, 11859210, 3913539 (cut)
        Due.is("cut at each try", x.engaged(5, 33), 1000000000 - 3913539);
        Due.is("n -1", x.engaged(-1, 0), Due.OUTSIDE);
        Due.is("n 31", x.engaged(31, 0), Due.OUTSIDE);
        Due.is("q -1", x.engaged(0, -1), Due.OUTSIDE);
        Due.is("q 101", x.engaged(0, 101), Due.OUTSIDE);
    }

    private static void gossip() {
        // soonest is 1, 0, 2: call 1 is done at 3, call 2 at 4, call 0 at 5; deaf ears tell it on, too
        LaceLines x = Due.town("e2 0;m0;m1;m2;m0;x0 1 2 9;x1 2 3 9;x2 3 1 1;");
        Due.is("1 at once", x.gossip(1, 0), 2);
        Due.is("1 behind 2", x.gossip(1, 2), 2);
        Due.is("1 behind 3", x.gossip(1, 3), 6);
        Due.is("1 behind 4", x.gossip(1, 4), 14);
        Due.is("1 behind 5", x.gossip(1, 5), 15);
        Due.is("0 behind 4", x.gossip(0, 4), 1);
        Due.is("0 behind 5", x.gossip(0, 5), 3);
        Due.is("0 behind 99", x.gossip(0, 99), 3);
        Due.is("3 behind 99", x.gossip(3, 99), 12);
        Due.is("maker 4", x.gossip(4, 0), Due.UNKNOWN);
        Due.is("n -1", x.gossip(0, -1), Due.OUTSIDE);
        Due.is("n 100", x.gossip(0, 100), Due.OUTSIDE);
        x.ring(1);
        x.minute(1);
        Due.is("rung ones tell it, too", x.gossip(1, 2), 6);
        Due.is("but not ahead of it", x.gossip(1, 1), 2);
        Due.is("in the order that is soonest", x.gossip(1, 4), 15);
        x.minute(2);
        Due.is("what is done tells nothing more", x.gossip(1, 99), 3);
        Due.is("no exchange", new LaceLines().gossip(0, 0), Due.UNKNOWN);
    }
}
