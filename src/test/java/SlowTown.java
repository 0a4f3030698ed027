import java.util.ArrayList;
import java.util.List;

/**
 * The document read a second time, as slowly and plainly as can be: minute by minute, all orders by
 * recursion, whole copies of what is so. Only to be compared with LaceLines.
 */
final class SlowTown {
    static final int NONE = -1, UNKNOWN = -1000000001, OUTSIDE = -1000000002, NOT = -1000000003, FULL = -1000000004;

    /** Section 2. */
    static final class Now {
        int minute;
        List<Integer> pins = new ArrayList<>();
        List<Integer> paid = new ArrayList<>();
        List<String> how = new ArrayList<>();
        List<Integer> begun = new ArrayList<>();
        List<Integer> ended = new ArrayList<>();
        long seed;

        Now copy() {
            Now n = new Now();
            n.minute = minute;
            n.pins.addAll(pins);
            n.paid.addAll(paid);
            n.how.addAll(how);
            n.begun.addAll(begun);
            n.ended.addAll(ended);
            n.seed = seed;
            return n;
        }
    }

    record Word(String said, int at) { }
    record Call(int a, int b, int t, int p) { }
    record Pair(int m, int thread) { }

    StringBuilder text = new StringBuilder();
    int faultAt = NONE;
    int lines;
    int cost;
    List<Integer> ears = new ArrayList<>();
    List<Call> calls = new ArrayList<>();
    Now now = new Now();
    List<Now> before = new ArrayList<>();
    Now[] images = new Now[2];
    List<Pair> lying = new ArrayList<>();
    List<Pair> book = new ArrayList<>();

    // ---- the town

    int feed(int letter) {
        if (letter < 0 || letter > 255) return OUTSIDE;
        if (text.length() == 200) return FULL;
        text.append((char) letter);
        return text.length();
    }

    private int newFault, newFaultAt, newLines, newCost;
    private List<Integer> newEars;
    private List<Call> newCalls;

    int town() {
        newFault = 0;
        newFaultAt = NONE;
        newLines = 0;
        newCost = 0;
        newEars = new ArrayList<>();
        newCalls = new ArrayList<>();
        read(words(), text.length());
        text.setLength(0);
        faultAt = newFaultAt;
        if (newFault > 0) return -10 - newFault;
        lines = newLines;
        cost = newCost;
        ears = newEars;
        calls = newCalls;
        long seed = now.seed;
        now = new Now();
        now.seed = seed;
        for (int m = 0; m < ears.size(); m++) {
            now.pins.add(m);
            now.paid.add(0);
        }
        for (int x = 0; x < calls.size(); x++) {
            now.how.add("open");
            now.begun.add(NONE);
            now.ended.add(NONE);
        }
        before.clear();
        images = new Now[2];
        lying.clear();
        book.clear();
        return ears.size();
    }

    private List<Word> words() {
        List<Word> words = new ArrayList<>();
        String all = text.toString();
        for (int i = 0; i < all.length(); i++) {
            char c = all.charAt(i);
            boolean grows = i > 0 && "0123456789".indexOf(c) >= 0 && "0123456789".indexOf(all.charAt(i - 1)) >= 0;
            if (grows) {
                Word last = words.remove(words.size() - 1);
                words.add(new Word(last.said() + c, last.at()));
            } else if (c != ' ') {
                words.add(new Word("" + c, i));
            }
        }
        return words;
    }

    private void read(List<Word> words, int length) {
        String kind = "";
        List<Integer> numbers = new ArrayList<>();
        for (Word w : words) {
            int flaw;
            if (kind.isEmpty()) {
                flaw = flawOfFirst(w.said());
                kind = w.said();
                numbers.clear();
            } else if (numbers.size() < wanted(kind)) {
                flaw = flawOfNumber(kind, numbers, w.said());
                if (flaw == 0) numbers.add(Integer.parseInt(w.said()));
            } else {
                flaw = w.said().equals(";") ? 0 : 1;
                if (flaw == 0) {
                    take(kind, numbers);
                    kind = "";
                }
            }
            if (flaw != 0) {
                newFault = flaw;
                newFaultAt = w.at();
                return;
            }
        }
        if (!kind.isEmpty()) {
            newFault = 1;
            newFaultAt = length;
        }
    }

    private static int wanted(String kind) {
        return kind.equals("e") ? 2 : kind.equals("m") ? 1 : 4;
    }

    private int flawOfFirst(String said) {
        if (!List.of("e", "m", "x").contains(said)) return 1;
        if (newLines == 0) return said.equals("e") ? 0 : 1;
        if (said.equals("e")) return 3;
        if (said.equals("m")) return newEars.size() == 6 ? 3 : 0;
        return newCalls.size() == 8 ? 3 : 0;
    }

    private int flawOfNumber(String kind, List<Integer> numbers, String said) {
        if (!said.matches("[0-9]+")) return 1;
        if (said.length() > 3) return 2;
        int v = Integer.parseInt(said);
        int which = numbers.size();
        if (kind.equals("e")) return which == 0 ? (v >= 1 && v <= 3 ? 0 : 2) : (v <= 99 ? 0 : 2);
        if (kind.equals("m")) return v <= 2 ? 0 : 2;
        if (which <= 1 && v >= newEars.size()) return 2;
        if (which == 1 && v == numbers.get(0)) return 4;
        if (which == 2) return v >= 1 && v <= 20 ? 0 : 2;
        if (which == 3) return v == 9 || v < newCalls.size() ? 0 : 2;
        return 0;
    }

    private void take(String kind, List<Integer> n) {
        if (kind.equals("e")) {
            newLines = n.get(0);
            newCost = n.get(1);
        } else if (kind.equals("m")) {
            newEars.add(n.get(0));
        } else {
            newCalls.add(new Call(n.get(0), n.get(1), n.get(2), n.get(3) == 9 ? NONE : n.get(3)));
        }
    }

    int fault() {
        return faultAt;
    }

    private static int setOf(Now n, String how) {
        int set = 0;
        for (int x = 0; x < n.how.size(); x++) if (n.how.get(x).equals(how)) set += 1 << x;
        return set;
    }

    private int paidByAll() {
        int sum = 0;
        for (int p : now.paid) sum += p;
        return sum;
    }

    int told(int what) {
        int[] all = {lines, cost, ears.size(), calls.size(), text.length(), now.minute, setOf(now, "open"),
            setOf(now, "rung"), setOf(now, "done"), paidByAll(), lying.size(), book.size(), before.size()};
        return what < 0 || what > 12 ? OUTSIDE : all[what];
    }

    private boolean noMaker(int m) {
        return m < 0 || m >= ears.size();
    }

    private boolean noCall(int x) {
        return x < 0 || x >= calls.size();
    }

    private int callOf(Now n, int m) {
        for (int x = 0; x < calls.size(); x++) {
            if (n.how.get(x).equals("rung") && (calls.get(x).a() == m || calls.get(x).b() == m)) return x;
        }
        return NONE;
    }

    int maker(int m, int what) {
        if (noMaker(m)) return UNKNOWN;
        if (what < 0 || what > 3) return OUTSIDE;
        return new int[] {ears.get(m), now.pins.get(m), now.paid.get(m), callOf(now, m)}[what];
    }

    int crossing(int x, int what) {
        if (noCall(x)) return UNKNOWN;
        if (what < 0 || what > 5) return OUTSIDE;
        Call c = calls.get(x);
        return new int[] {c.a(), c.b(), c.t(), c.p(), List.of("open", "rung", "done").indexOf(now.how.get(x)),
            now.ended.get(x)}[what];
    }

    // ---- calls

    private void step() {
        before.add(now.copy());
        if (before.size() > 30) before.remove(0);
    }

    private boolean can(Now n, int x, int lineCount) {
        Call c = calls.get(x);
        if (!n.how.get(x).equals("open")) return false;
        if (c.p() != NONE && !n.how.get(c.p()).equals("done")) return false;
        if (callOf(n, c.a()) != NONE || callOf(n, c.b()) != NONE) return false;
        return Integer.bitCount(setOf(n, "rung")) < lineCount;
    }

    private void begin(Now n, int x) {
        n.how.set(x, "rung");
        n.begun.set(x, n.minute);
        n.ended.set(x, n.minute + calls.get(x).t());
    }

    private static void change(List<Integer> pins, int a, int b) {
        int held = pins.get(a);
        pins.set(a, pins.get(b));
        pins.set(b, held);
    }

    private void cross(List<Integer> pins, List<Integer> hearing, Call c) {
        if (hearing.get(c.a()) == 1 || hearing.get(c.b()) == 1) return;
        if (hearing.get(c.a()) == 2 || hearing.get(c.b()) == 2) {
            int other = (c.b() + 1) % ears.size();
            if (other != c.a()) change(pins, c.a(), other);
            return;
        }
        change(pins, c.a(), c.b());
    }

    private void pay(Now n, Call c, int minutes) {
        n.paid.set(c.a(), n.paid.get(c.a()) + minutes * cost);
        n.paid.set(c.b(), n.paid.get(c.b()) + minutes * cost);
    }

    private List<Integer> tick(Now n) {
        n.minute++;
        List<Integer> over = new ArrayList<>();
        for (int x = 0; x < calls.size(); x++) {
            if (n.how.get(x).equals("rung") && n.begun.get(x) + calls.get(x).t() == n.minute) {
                n.how.set(x, "done");
                cross(n.pins, ears, calls.get(x));
                pay(n, calls.get(x), calls.get(x).t());
                over.add(x);
            }
        }
        return over;
    }

    int ring(int x) {
        if (noCall(x)) return UNKNOWN;
        if (!can(now, x, lines)) return NOT;
        step();
        begin(now, x);
        return now.minute + calls.get(x).t();
    }

    int hangUp(int x) {
        if (noCall(x)) return UNKNOWN;
        if (!now.how.get(x).equals("rung")) return NOT;
        step();
        int wentBy = now.minute - now.begun.get(x);
        pay(now, calls.get(x), wentBy);
        now.how.set(x, "open");
        now.ended.set(x, NONE);
        return wentBy;
    }

    int minute(int n) {
        return many(n, false);
    }

    int drift(int n) {
        return many(n, true);
    }

    private int many(int n, boolean byDraws) {
        if (n < 1 || n > 60) return OUTSIDE;
        if (lines == 0) return NOT;
        if (now.minute > 90000) return FULL;
        for (int i = 0; i < n; i++) {
            if (byDraws) {
                now.seed = (now.seed * 1103515245L + 12345L) % (1L << 31);
                int x = (int) (now.seed / 65536 % (calls.size() + 1));
                if (x < calls.size()) ring(x);
            }
            step();
            tick(now);
        }
        return setOf(now, "done");
    }

    int wrongNumber(int a, int b) {
        if (noMaker(a) || noMaker(b) || a == b) return UNKNOWN;
        if (callOf(now, a) != NONE || callOf(now, b) != NONE) return NOT;
        step();
        change(now.pins, a, b);
        return now.pins.get(a);
    }

    int undo(int n) {
        if (n < 1 || n > 30) return OUTSIDE;
        if (before.size() < n) return NOT;
        for (int i = 0; i < n; i++) {
            long seed = now.seed;
            now = before.remove(before.size() - 1);
            now.seed = seed;
        }
        return now.minute;
    }

    // ---- tried

    private int bestMinutes;
    private List<Integer> bestOrder;

    private void plan(int lineCount) {
        bestMinutes = Integer.MAX_VALUE;
        bestOrder = null;
        orders(new ArrayList<>(), lineCount);
    }

    private void orders(List<Integer> order, int lineCount) {
        boolean whole = true;
        for (int x = 0; x < calls.size(); x++) {
            if (now.how.get(x).equals("open") && !order.contains(x)) {
                whole = false;
                order.add(x);
                orders(order, lineCount);
                order.remove(order.size() - 1);
            }
        }
        if (whole) {
            Now n = now.copy();
            for (int i = 0; setOf(n, "done") != (1 << calls.size()) - 1; i++) {
                for (int x : order) if (can(n, x, lineCount)) begin(n, x);
                tick(n);
            }
            if (n.minute - now.minute < bestMinutes) {
                bestMinutes = n.minute - now.minute;
                bestOrder = new ArrayList<>(order);
            }
        }
    }

    private boolean noPlan() {
        return lines == 0 || Integer.bitCount(setOf(now, "open")) > 6;
    }

    int soonest(int i) {
        if (noPlan()) return NOT;
        plan(lines);
        if (i == NONE) return bestMinutes;
        return i < 0 || i >= bestOrder.size() ? NONE : bestOrder.get(i);
    }

    int lines(int n) {
        if (n < 0 || n > 200) return OUTSIDE;
        if (noPlan()) return NOT;
        for (int l = 1; l <= 3; l++) {
            plan(l);
            if (bestMinutes <= n) return l;
        }
        return NONE;
    }

    private int rowTo(int x) {
        return x == NONE ? 0 : calls.get(x).t() + rowTo(calls.get(x).p());
    }

    int chain(int what) {
        if (what < 0 || what > 1) return OUTSIDE;
        int last = NONE;
        for (int x = calls.size() - 1; x >= 0; x--) if (last == NONE || rowTo(x) >= rowTo(last)) last = x;
        if (last == NONE) return NONE;
        return what == 1 ? last : rowTo(last);
    }

    private List<Integer> shown(int wrong, List<Integer> hearing) {
        List<Integer> pins = new ArrayList<>();
        for (int m = 0; m < ears.size(); m++) pins.add(m);
        for (int x = 0; x < calls.size(); x++) if ((wrong & 1 << x) == 0) cross(pins, hearing, calls.get(x));
        return pins;
    }

    int window(int m, int set) {
        if (noMaker(m) || set < 0 || set >= 1 << calls.size()) return UNKNOWN;
        return shown(set, ears).get(m);
    }

    private boolean lostWithout(int m, int x) {
        Call c = calls.get(x);
        return c.a() == m || c.b() == m || c.p() != NONE && lostWithout(m, c.p());
    }

    int gone(int m) {
        if (noMaker(m)) return UNKNOWN;
        int set = 0;
        for (int x = 0; x < calls.size(); x++) if (lostWithout(m, x)) set |= 1 << x;
        return set;
    }

    int share(int m) {
        if (noMaker(m)) return UNKNOWN;
        return paidByAll() == 0 ? 0 : (int) (1000L * now.paid.get(m) / paidByAll());
    }

    int engaged(int n, int q) {
        if (n < 0 || n > 30 || q < 0 || q > 100) return OUTSIDE;
        return 1000000000 - (int) busy(n, q);
    }

    private static long busy(int n, int q) {
        return n == 0 ? 1000000000L : busy(n - 1, q) * q / 100;
    }

    int gossip(int m, int n) {
        if (noMaker(m)) return UNKNOWN;
        if (n < 0 || n > 99) return OUTSIDE;
        if (noPlan()) return NOT;
        plan(lines);
        Now t = now.copy();
        int known = 1 << m;
        for (int i = 0; i < n; i++) {
            for (int x : bestOrder) if (can(t, x, lines)) begin(t, x);
            for (int x : tick(t)) {
                int pair = 1 << calls.get(x).a() | 1 << calls.get(x).b();
                if ((known & pair) != 0) known |= pair;
            }
        }
        return known;
    }

    // ---- what lies there

    int lies(int m, int thread) {
        if (noMaker(m) || noMaker(thread)) return UNKNOWN;
        if (lying.size() == 6) return FULL;
        lying.add(new Pair(m, thread));
        return lying.size();
    }

    private boolean so(List<Integer> pins) {
        for (Pair p : lying) if (pins.get(p.m()) != p.thread()) return false;
        return true;
    }

    private List<Integer> wrongSets() {
        List<Integer> sets = new ArrayList<>();
        if (so(shown(0, ears))) sets.add(0);
        for (int x = 0; x < calls.size(); x++) if (so(shown(1 << x, ears))) sets.add(1 << x);
        for (int high = 1; high < calls.size(); high++) {
            for (int low = 0; low < high; low++) {
                if (so(shown(1 << high | 1 << low, ears))) sets.add(1 << high | 1 << low);
            }
        }
        return sets;
    }

    private static int pick(List<Integer> row, int i) {
        return i == NONE ? row.size() : i < 0 || i >= row.size() ? NONE : row.get(i);
    }

    int wentWrong(int i) {
        return pick(wrongSets(), i);
    }

    int sure() {
        List<Integer> sets = wrongSets();
        if (sets.isEmpty()) return 0;
        int common = -1;
        for (int s : sets) common &= s;
        return common;
    }

    int look() {
        List<Integer> sets = wrongSets();
        int best = NONE;
        int least = sets.size();
        for (int m = 0; m < ears.size(); m++) {
            int greatest = 0;
            for (int s : sets) {
                int alike = 0;
                for (int t : sets) if (shown(s, ears).get(m).equals(shown(t, ears).get(m))) alike++;
                greatest = Math.max(greatest, alike);
            }
            if (greatest < least) {
                least = greatest;
                best = m;
            }
        }
        return best;
    }

    int strange(int i) {
        List<Integer> pairs = new ArrayList<>();
        for (int code = 0; code < 60; code++) {
            int a = code / 10;
            int b = code % 10;
            if (a < b && b < ears.size()) {
                List<Integer> pins = shown(0, ears);
                change(pins, a, b);
                if (so(pins)) pairs.add(code);
            }
        }
        return pick(pairs, i);
    }

    int ears(int m) {
        if (noMaker(m)) return UNKNOWN;
        int set = 0;
        for (int e = 0; e < 3; e++) {
            List<Integer> hearing = new ArrayList<>(ears);
            hearing.set(m, e);
            if (so(shown(0, hearing))) set |= 1 << e;
        }
        return set;
    }

    int write(int m, int thread) {
        if (noMaker(m) || noMaker(thread)) return UNKNOWN;
        if (book.size() == 20) return FULL;
        book.add(new Pair(m, thread));
        return book.size();
    }

    int judge() {
        for (int i = 0; i < book.size(); i++) {
            if (now.pins.get(book.get(i).m()) != book.get(i).thread()) return i;
        }
        return NONE;
    }

    int tear() {
        int both = lying.size() + book.size();
        lying.clear();
        book.clear();
        return both;
    }

    // ---- images

    int seed(int v) {
        if (v < 0) return OUTSIDE;
        int was = (int) now.seed;
        now.seed = v;
        return was;
    }

    int keep(int i) {
        if (i < 0 || i > 1) return UNKNOWN;
        images[i] = now.copy();
        before.clear();
        return 1;
    }

    int goBack(int i) {
        if (i < 0 || i > 1) return UNKNOWN;
        if (images[i] == null) return NOT;
        now = images[i].copy();
        before.clear();
        return 1;
    }
}
