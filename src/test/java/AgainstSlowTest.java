import java.util.Random;

/** Runs of calls by chance, each asked of LaceLines and of SlowTown: all answers must be alike. */
public final class AgainstSlowTest {
    private static final int RUNS = Integer.getInteger("runs", 600);
    private static final int CALLS = 250;
    private static Random chance;
    private static LaceLines fast;
    private static SlowTown slow;

    public static void main(String[] args) {
        for (int run = 0; run < RUNS; run++) {
            chance = new Random(run + Integer.getInteger("from", 0));
            fast = new LaceLines();
            slow = new SlowTown();
            if (chance.nextInt(10) > 0) {
                tell(run, text());
            }
            for (int i = 0; i < CALLS; i++) {
                call(run);
            }
        }
        Due.end();
    }

    private static int below(int n) {
        return chance.nextInt(n);
    }

    /** Mostly within 0 .. n - 1, at times beside it or far away. */
    private static int near(int n) {
        switch (below(30)) {
            case 0: return -1;
            case 1: return n;
            case 2: return below(2) == 0 ? Integer.MIN_VALUE : Integer.MAX_VALUE;
            case 3: return -2;
            case 4: return below(200) - 50;
            default: return below(Math.max(n, 1));
        }
    }

    private static String blanks() {
        return below(12) == 0 ? "  " : "";
    }

    private static String text() {
        int makers = below(4) == 0 ? below(7) : 3 + below(4);
        int crossings = makers < 2 ? 0 : below(9);
        StringBuilder s = new StringBuilder(blanks() + "e" + (1 + below(3)) + " " + below(100) + ";");
        for (int m = 0; m < makers; m++) {
            s.append("m").append(blanks()).append(below(2) == 0 ? 0 : below(3)).append(blanks()).append(";");
        }
        for (int x = 0; x < crossings; x++) {
            int a = below(makers);
            int b = (a + 1 + below(makers - 1)) % makers;
            int p = x == 0 || below(2) == 0 ? 9 : below(x);
            s.append("x").append(a).append(" ").append(b).append(" ").append(1 + below(below(3) == 0 ? 20 : 5));
            s.append(" ").append(blanks()).append(p).append(";").append(blanks());
        }
        return below(6) == 0 ? spoilt(s) : s.toString();
    }

    private static String spoilt(StringBuilder s) {
        String letters = "emx;0123456789   z-";
        for (int i = below(3); i >= 0 && s.length() > 0; i--) {
            int at = below(s.length());
            switch (below(4)) {
                case 0: s.deleteCharAt(at); break;
                case 1: s.insert(at, letters.charAt(below(letters.length()))); break;
                case 2: s.setCharAt(at, letters.charAt(below(letters.length()))); break;
                default: s.setLength(at); break;
            }
        }
        return s.toString();
    }

    private static void tell(int run, String text) {
        for (int i = 0; i < text.length(); i++) {
            same(run, "feed(" + (int) text.charAt(i) + ")", fast.feed(text.charAt(i)), slow.feed(text.charAt(i)));
        }
        same(run, "town() of '" + text + "'", fast.town(), slow.town());
        same(run, "fault() of '" + text + "'", fast.fault(), slow.fault());
    }

    private static void same(int run, String call, int got, int want) {
        Due.is("run " + run + ": " + call, got, want);
    }

    private static void call(int run) {
        int m = near(slow.ears.size());
        int x = near(slow.calls.size());
        int pick = below(40);
        if (pick < 12) {
            change(run, pick, m, x);
        } else if (pick < 27) {
            ask(run, pick, m, x);
        } else {
            suspect(run, pick, m, x);
        }
    }

    private static void change(int run, int pick, int m, int x) {
        int n = below(3) == 0 ? near(61) : 1 + below(4);
        int other = near(slow.ears.size());
        switch (pick) {
            case 0: case 1: case 2: case 3: same(run, "ring(" + x + ")", fast.ring(x), slow.ring(x)); break;
            case 4: same(run, "hangUp(" + x + ")", fast.hangUp(x), slow.hangUp(x)); break;
            case 5: case 6: same(run, "minute(" + n + ")", fast.minute(n), slow.minute(n)); break;
            case 7:
                same(run, "wrongNumber(" + m + ", " + other + ")", fast.wrongNumber(m, other), slow.wrongNumber(m, other));
                break;
            case 8: same(run, "drift(" + n + ")", fast.drift(n), slow.drift(n)); break;
            case 9: same(run, "undo(" + n + ")", fast.undo(n), slow.undo(n)); break;
            case 10: image(run, near(2)); break;
            default: rare(run); break;
        }
    }

    private static void image(int run, int i) {
        if (below(2) == 0) {
            same(run, "keep(" + i + ")", fast.keep(i), slow.keep(i));
        } else {
            same(run, "goBack(" + i + ")", fast.goBack(i), slow.goBack(i));
        }
    }

    private static void rare(int run) {
        int v = near(1000000);
        switch (below(8)) {
            case 0: tell(run, text()); break;
            case 1: same(run, "feed(" + v + ")", fast.feed(v), slow.feed(v)); break;
            case 2: case 3: same(run, "tear()", fast.tear(), slow.tear()); break;
            default: same(run, "seed(" + v + ")", fast.seed(v), slow.seed(v)); break;
        }
    }

    private static void ask(int run, int pick, int m, int x) {
        int what = near(13);
        int n = near(40);
        int set = below(4) == 0 ? near(300) : below(1 << slow.calls.size());
        switch (pick) {
            case 12: same(run, "told(" + what + ")", fast.told(what), slow.told(what)); break;
            case 13: case 14: all(run); break;
            case 15: same(run, "maker(" + m + ", " + what + ")", fast.maker(m, what), slow.maker(m, what)); break;
            case 16: same(run, "crossing(" + x + ", " + what + ")", fast.crossing(x, what), slow.crossing(x, what)); break;
            case 17:
                if (below(6) == 0) {
                    plan(run);
                }
                break;
            case 18:
                if (below(6) == 0) {
                    same(run, "lines(" + n + ")", fast.lines(n), slow.lines(n));
                }
                break;
            case 19: same(run, "chain(" + what + ")", fast.chain(what), slow.chain(what)); break;
            case 20: same(run, "chain(" + (what & 1) + ")", fast.chain(what & 1), slow.chain(what & 1)); break;
            case 21: case 22: same(run, "window(" + m + ", " + set + ")", fast.window(m, set), slow.window(m, set)); break;
            case 23: same(run, "gone(" + m + ")", fast.gone(m), slow.gone(m)); break;
            case 24: same(run, "share(" + m + ")", fast.share(m), slow.share(m)); break;
            case 25:
                int q = near(101);
                same(run, "engaged(" + n + ", " + q + ")", fast.engaged(n, q), slow.engaged(n, q));
                break;
            default:
                if (below(6) == 0) {
                    same(run, "gossip(" + m + ", " + n + ")", fast.gossip(m, n), slow.gossip(m, n));
                }
                break;
        }
    }

    private static void all(int run) {
        for (int what = 0; what <= 12; what++) {
            same(run, "told(" + what + ")", fast.told(what), slow.told(what));
        }
        for (int k = 0; k < 8; k++) {
            for (int what = 0; what < 6; what++) {
                same(run, "maker(" + k + ", " + what + ")", fast.maker(k, what), slow.maker(k, what));
                same(run, "crossing(" + k + ", " + what + ")", fast.crossing(k, what), slow.crossing(k, what));
            }
        }
        same(run, "fault()", fast.fault(), slow.fault());
    }

    private static void plan(int run) {
        for (int i = -2; i < 7; i++) {
            same(run, "soonest(" + i + ")", fast.soonest(i), slow.soonest(i));
        }
    }

    private static void suspect(int run, int pick, int m, int x) {
        int thread = near(slow.ears.size());
        int i = below(3) == 0 ? Due.NONE : near(16);
        switch (pick) {
            case 27: case 28: lie(run, m, thread); break;
            case 29: case 30: case 31: same(run, "wentWrong(" + i + ")", fast.wentWrong(i), slow.wentWrong(i)); break;
            case 32: same(run, "sure()", fast.sure(), slow.sure()); break;
            case 33: same(run, "look()", fast.look(), slow.look()); break;
            case 34: case 35: same(run, "strange(" + i + ")", fast.strange(i), slow.strange(i)); break;
            case 36: same(run, "ears(" + m + ")", fast.ears(m), slow.ears(m)); break;
            case 37: same(run, "judge()", fast.judge(), slow.judge()); break;
            default:
                int t = below(2) == 0 && m >= 0 && m < slow.ears.size() ? slow.now.pins.get(m) : thread;
                same(run, "write(" + m + ", " + t + ")", fast.write(m, t), slow.write(m, t));
                break;
        }
    }

    /** Mostly what may be so, lest nothing fit; and torn at times, lest it be full. */
    private static void lie(int run, int m, int thread) {
        if (below(4) == 0) {
            same(run, "tear()", fast.tear(), slow.tear());
        }
        int t = below(3) > 0 && slow.calls.size() > 0 ? slow.window(m, 1 << below(slow.calls.size())) : thread;
        same(run, "lies(" + m + ", " + t + ")", fast.lies(m, t), slow.lies(m, t));
    }
}
