import java.util.ArrayList;
import java.util.HashMap;
import java.util.List;
import java.util.Map;
import java.util.Set;
import java.util.TreeSet;

/**
 * Two objects of the same story, one of them with a call more: if that call changed nothing, all that can be asked of
 * them, and all that they answer to whatever is done next, is the same. Each row of questions goes to new twins, so
 * that no object has more calls than are promised.
 */
final class Twins {
    private static final Set<String> WITH_MARK = Set.of("barrier", "keep", "give", "end");
    /** The same texts come over and over. */
    private static final Map<String, List<Story.Call>> PARSED = new HashMap<>();

    private final String title;
    private final List<Story.Call> before;
    private final Story.Call call;

    private Twins(String title, List<Story.Call> before, Story.Call call) {
        this.title = title + ": changed by " + call + " as call " + before.size();
        this.before = before;
        this.call = call;
    }

    static void nothingChanges(String title, List<Story.Call> before, Story.Call call) {
        Twins twins = new Twins(title, before, call);
        twins.asked(twins.allQuestions());
        twins.then(twins.workUntilPowerFails());
        twins.then(twins.whatOpenPartsHold());
        twins.then("open() " + summary());
        twins.then("show() " + summary() + "show() show() " + summary());
        twins.then(readingOn());
        twins.then("output(1) told(0) about(0,0) about(1,0) about(2,0)");
        for (int mark : twins.marks()) {
            twins.then("keep(" + mark + ") " + summary());
            twins.then("barrier(" + mark + ") " + summary());
            twins.then("give(" + mark + ") " + summary() + "barrier(" + mark + ")");
        }
    }

    /** Questions change nothing, so that they may be asked of more than one pair. */
    private void asked(List<Story.Call> questions) {
        int room = Math.max(1, Story.MOST_CALLS - before.size() - 1);
        for (int from = 0; from < questions.size(); from += room) {
            compare(questions.subList(from, Math.min(questions.size(), from + room)));
        }
    }

    private void then(String text) {
        List<Story.Call> calls = PARSED.computeIfAbsent(text, Story::calls);
        int room = Math.max(1, Story.MOST_CALLS - before.size() - 1);
        compare(calls.subList(0, Math.min(calls.size(), room)));
    }

    private void compare(List<Story.Call> calls) {
        TwoStepOutputs without = told();
        TwoStepOutputs with = told();
        call.on(with);
        for (Story.Call next : calls) {
            long want = next.on(without);
            long got = next.on(with);
            if (got != want) Due.is(title + ", then " + next, got, want);
        }
        Due.holds(title, true);
    }

    private TwoStepOutputs told() {
        TwoStepOutputs x = new TwoStepOutputs();
        for (Story.Call earlier : before) earlier.on(x);
        return x;
    }

    private List<Story.Call> allQuestions() {
        TwoStepOutputs x = told();
        StringBuilder text = new StringBuilder("audit() ");
        for (int what = 0; what < 9; what++) ask(text, "told", what);
        for (int o = 0; o < x.told(0); o++) askOfOutput(text, x, o);
        for (int r = 0; r < x.told(8); r++) {
            for (int key = 0; key < 10; key++) ask(text, "seen", r, key);
            ask(text, "seen", r, TwoStepOutputs.NONE);
        }
        for (int i = 0; i <= x.told(1); i++) {
            for (int what = 0; what < 5; what++) ask(text, "record", i, what);
        }
        return PARSED.computeIfAbsent(text.toString(), Story::calls);
    }

    private static void askOfOutput(StringBuilder text, TwoStepOutputs x, int o) {
        for (int what = 0; what < 7; what++) ask(text, "about", o, what);
        for (int p = 0; p <= x.about(o, 2); p++) {
            for (int what = 0; what < 3; what++) ask(text, "part", o, p, what);
        }
        for (int i = 0; i <= x.about(o, 3); i++) {
            for (int what = 0; what < 4; what++) ask(text, "line", o, i, what);
        }
        for (int key = 0; key < 10; key++) {
            for (int what = 0; what < 3; what++) ask(text, "last", o, key, what);
        }
    }

    private static void ask(StringBuilder text, String name, int... with) {
        text.append(name).append('(');
        for (int i = 0; i < with.length; i++) text.append(i == 0 ? "" : ",").append(with[i]);
        text.append(") ");
    }

    private static String summary() {
        StringBuilder text = new StringBuilder();
        for (int what = 1; what < 8; what++) ask(text, "told", what);
        for (int o = 0; o < 3; o++) {
            for (int what = 1; what < 7; what++) ask(text, "about", o, what);
        }
        return text.toString();
    }

    /** A countdown to a failure of power can be seen only by what comes to it. */
    private String workUntilPowerFails() {
        StringBuilder text = new StringBuilder();
        int mark = Math.max(-1, told().told(3));
        for (int i = 0; i < 30; i++) {
            mark++;
            for (int o = 0; o < 3; o++) ask(text, "write", o, o, i);
            ask(text, "barrier", mark);
            ask(text, "told", 6);
            ask(text, "keep", mark);
            ask(text, "told", 6);
            ask(text, "told", 5);
        }
        return text.toString();
    }

    private String whatOpenPartsHold() {
        StringBuilder text = new StringBuilder("power(-6) ");
        TwoStepOutputs x = told();
        ask(text, "barrier", Math.max(-1, x.told(3)) + 1);
        for (int i = x.told(1); i < x.told(1) + 70; i++) {
            for (int what = 1; what < 5; what++) ask(text, "record", i, what);
        }
        return text.toString();
    }

    private static String readingOn() {
        StringBuilder text = new StringBuilder();
        for (int n = 1; n <= 100; n += 99) {
            for (int r = 0; r < 4; r++) {
                ask(text, "read", r, n);
                for (int key = 0; key < 10; key++) ask(text, "seen", r, key);
            }
        }
        ask(text, "reader", 0);
        return text.toString();
    }

    private Set<Integer> marks() {
        Set<Integer> marks = new TreeSet<>(Set.of(0, 1_000_000));
        List<Story.Call> calls = new ArrayList<>(before);
        calls.add(call);
        for (Story.Call each : calls) {
            if (!WITH_MARK.contains(each.name())) continue;
            int mark = each.with()[0];
            marks.addAll(Set.of(mark - 1, mark, mark + 1));
        }
        return marks;
    }
}
