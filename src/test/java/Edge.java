import java.lang.reflect.InvocationTargetException;
import java.lang.reflect.Method;
import java.util.ArrayList;
import java.util.Arrays;
import java.util.HashMap;
import java.util.List;
import java.util.Map;
import java.util.Set;

/**
 * Boundary cases as stories: calls on a new object, some with the answer that is due.
 *
 * Steps stand between '|'. A step is a call's name with its numbers (or NONE, MIN, MAX), or a text in marks, which is
 * fed and becomes the town: 'e1 0;m0;'; with + ahead it is fed only: +'e1'. 30*minute 1 is a step thirty times.
 * Behind = stands the answer that is due (of the last time, if it is a step of many; no refusal then).
 *
 * Wherever an answer is due that must leave all as it was (a refusal, a fault of a text, a question), two more
 * objects are made for each way of asking all: one has had the call, the other has not, and both must answer alike.
 * No object has more than 512 calls: what later ones answer is free.
 */
final class Edge {
    private static final int MOST_CALLS = 512;
    private static final Set<String> QUESTIONS = Set.of("fault", "told", "maker", "crossing", "soonest", "lines", "chain",
        "window", "gone", "share", "engaged", "gossip", "wentWrong", "sure", "look", "strange", "ears", "judge");
    private static final Map<String, Integer> NAMED = Map.of("NONE", Due.NONE, "UNKNOWN", Due.UNKNOWN,
        "OUTSIDE", Due.OUTSIDE, "NOT", Due.NOT, "FULL", Due.FULL, "MIN", Integer.MIN_VALUE, "MAX", Integer.MAX_VALUE);
    private static final Map<String, Method> CALLS = calls();
    private static final List<Step> ABOUT_TEXT = steps(
        "fault|told 4|feed 59|feed 59|town|fault");
    private static final List<List<Step>> ABOUT_ALL = List.of(
        steps(states()), steps(states() + "|" + plans()), steps(states() + "|" + windows()), steps(suspicions()),
        steps("judge|told 10|told 11|tear|judge|told 10|told 11|seed 0"),
        steps(undoing()), steps("goBack 0|seed 5|" + states()), steps("goBack 1|seed 5|" + states()),
        steps("drift 1|seed 5|drift 60|seed 5|" + states()), steps("minute 20|" + states()));

    private record Step(String said, Method call, int[] numbers, String text, boolean told, int times, Integer due) { }

    private Edge() { }

    /** All answers that are due in this story are given, and what must change nothing does not. */
    static void run(String sentence, String story) {
        List<Step> all = steps(story);
        Teller teller = new Teller(new LaceLines());
        for (int i = 0; i < all.size(); i++) {
            Step step = all.get(i);
            int got = teller.take(step);
            if (step.due() != null) {
                Due.is(sentence + ": " + story + ": " + step.said(), got, step.due());
                if (changesNothing(step)) {
                    unchanged(sentence + ": " + step.said() + " changes nothing", all.subList(0, i), step);
                }
            }
        }
    }

    /** The same for a row of last steps, each with a new object and this story ahead. */
    static void each(String sentence, String story, String... last) {
        for (String step : last) {
            run(sentence, story.isEmpty() ? step : story + "|" + step);
        }
    }

    /** Behind both stories all that can be asked is answered alike. */
    static void alike(String sentence, String story, String other) {
        same(sentence, steps(story), steps(other), ABOUT_TEXT);
        for (List<Step> question : ABOUT_ALL) {
            same(sentence, steps(story), steps(other), question);
        }
    }

    private static boolean changesNothing(Step step) {
        return step.due() <= Due.UNKNOWN || isFault(step) || step.call() != null && QUESTIONS.contains(step.call().getName());
    }

    private static boolean isFault(Step step) {
        return step.text() != null && step.told() && step.due() < Due.NONE;
    }

    private static void unchanged(String sentence, List<Step> story, Step last) {
        List<Step> other = new ArrayList<>(story);
        other.add(last);
        for (List<Step> question : ABOUT_ALL) {
            same(sentence, story, other, question);
        }
        // with a fault the text is empty then, and fault() tells of it
        if (!isFault(last)) {
            same(sentence, story, other, ABOUT_TEXT);
        }
    }

    private static void same(String sentence, List<Step> story, List<Step> other, List<Step> question) {
        Teller one = told(story);
        Teller two = told(other);
        for (Step step : question) {
            Due.is(sentence + ", asked by " + step.said(), two.take(step), one.take(step));
        }
    }

    private static Teller told(List<Step> story) {
        Teller teller = new Teller(new LaceLines());
        for (Step step : story) {
            teller.take(step);
        }
        return teller;
    }

    /** Tells one object a story, and counts its calls. */
    private static final class Teller {
        private final LaceLines lace;
        private int calls;

        Teller(LaceLines lace) {
            this.lace = lace;
        }

        int take(Step step) {
            int answer = 0;
            for (int i = 0; i < step.times(); i++) {
                answer = once(step);
            }
            return answer;
        }

        private int once(Step step) {
            if (step.text() == null) {
                return ask(step);
            }
            int answer = 0;
            for (int i = 0; i < step.text().length(); i++) {
                count();
                answer = lace.feed(step.text().charAt(i));
            }
            if (step.told()) {
                count();
                answer = lace.town();
            }
            return answer;
        }

        private int ask(Step step) {
            count();
            try {
                Object[] numbers = Arrays.stream(step.numbers()).boxed().toArray();
                return (Integer) step.call().invoke(lace, numbers);
            } catch (IllegalAccessException | InvocationTargetException e) {
                throw new IllegalStateException("a call threw: " + step.said(), e);
            }
        }

        private void count() {
            calls++;
            if (calls > MOST_CALLS) {
                throw new IllegalStateException("a test's own story has too many calls");
            }
        }
    }

    private static Map<String, Method> calls() {
        Map<String, Method> all = new HashMap<>();
        for (Method m : LaceLines.class.getDeclaredMethods()) {
            if (java.lang.reflect.Modifier.isPublic(m.getModifiers())) {
                all.put(m.getName(), m);
            }
        }
        return all;
    }

    private static List<Step> steps(String story) {
        List<Step> all = new ArrayList<>();
        if (!story.isEmpty()) {
            for (String said : story.split("\\|")) {
                all.add(step(said.trim()));
            }
        }
        return all;
    }

    private static Step step(String said) {
        int mark = said.lastIndexOf('=');
        Integer due = mark < 0 ? null : number(said.substring(mark + 1).trim());
        String left = mark < 0 ? said : said.substring(0, mark).trim();
        int times = 1;
        int star = left.indexOf('*');
        if (star > 0) {
            times = Integer.parseInt(left.substring(0, star));
            left = left.substring(star + 1);
        }
        boolean fedOnly = left.startsWith("+");
        if (fedOnly || left.startsWith("'")) {
            String text = left.substring(left.indexOf('\'') + 1, left.lastIndexOf('\''));
            return new Step(said, null, null, text, !fedOnly, times, due);
        }
        String[] words = left.split(" +");
        Method call = CALLS.get(words[0]);
        int[] numbers = new int[words.length - 1];
        for (int i = 0; i < numbers.length; i++) {
            numbers[i] = number(words[i + 1]);
        }
        boolean refusedOften = times > 1 && due != null && due <= Due.UNKNOWN;
        if (call == null || call.getParameterCount() != numbers.length || refusedOften) {
            throw new IllegalStateException("a test's own story is wrong: " + said);
        }
        return new Step(said, call, numbers, null, false, times, due);
    }

    private static int number(String said) {
        return NAMED.containsKey(said) ? NAMED.get(said) : Integer.parseInt(said);
    }

    // ---- ways of asking all, each of some hundred calls

    private static String states() {
        StringBuilder s = new StringBuilder();
        for (int what = 0; what <= 12; what++) {
            // 4, the letters of the text, is asked with the text
            s.append(what == 4 ? "" : "told " + what + "|");
        }
        for (int k = 0; k < 8; k++) {
            s.append("crossing " + k + " 0|crossing " + k + " 1|crossing " + k + " 2|crossing " + k + " 3|");
            s.append("crossing " + k + " 4|crossing " + k + " 5|");
        }
        for (int m = 0; m < 6; m++) {
            s.append("maker " + m + " 0|maker " + m + " 1|maker " + m + " 2|maker " + m + " 3|");
        }
        return s.append("told 12").toString();
    }

    private static String plans() {
        StringBuilder s = new StringBuilder("chain 0|chain 1|lines 0|lines 4|lines 9|lines 20|lines 200");
        for (int i = -1; i < 7; i++) {
            s.append("|soonest " + i);
        }
        for (int m = 0; m < 6; m++) {
            s.append("|gossip " + m + " 3|gossip " + m + " 99|gone " + m + "|share " + m);
        }
        return s.toString();
    }

    private static String windows() {
        StringBuilder s = new StringBuilder("sure|look");
        for (int m = 0; m < 6; m++) {
            s.append("|window " + m + " 0|window " + m + " 1|window " + m + " 6|ears " + m);
        }
        return s.toString();
    }

    private static String suspicions() {
        StringBuilder s = new StringBuilder("sure|look|wentWrong -1|strange -1");
        for (int i = 0; i <= 37; i++) {
            s.append("|wentWrong " + i + (i < 16 ? "|strange " + i : ""));
        }
        return s.toString();
    }

    private static String undoing() {
        StringBuilder s = new StringBuilder("seed 3");
        for (int i = 0; i < 31; i++) {
            s.append("|undo 1|told 7|told 8|told 9|maker 0 1|maker 2 1");
        }
        return s.append("|seed 3").toString();
    }
}
