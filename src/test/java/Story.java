import java.util.ArrayList;
import java.util.Arrays;
import java.util.List;
import java.util.regex.Matcher;
import java.util.regex.Pattern;

/**
 * A run of calls on a new object, told as a text: "output(0)=0 write(0,10,5)!OUTSIDE 3*write(0,1,5)". Behind "=" stands
 * the answer that is due; behind "!" too, and besides nothing may have changed by that call; with "?" that alone.
 */
final class Story {
    /** The document promises nothing behind that many calls. */
    static final int MOST_CALLS = 512;

    private static final Pattern CALL = Pattern.compile("(?:(\\d+)\\*)?(\\w+)\\(([^)]*)\\)(?:([=!])(\\S+)|(\\?))?");

    private Story() {
    }

    record Call(String name, int[] with, String sign, long due) {
        boolean hasDue() {
            return sign.equals("=") || sign.equals("!");
        }

        boolean changesNothing() {
            return sign.equals("!") || sign.equals("?");
        }

        long on(TwoStepOutputs x) {
            switch (name) {
                case "output": return x.output(with[0]);
                case "write": return x.write(with[0], with[1], with[2]);
                case "barrier": return x.barrier(with[0]);
                case "keep": return x.keep(with[0]);
                case "show": return x.show();
                case "give": return x.give(with[0]);
                case "end": return x.end(with[0]);
                case "fails": return x.fails(with[0], with[1]);
                case "power": return x.power(with[0]);
                case "open": return x.open();
                case "about": return x.about(with[0], with[1]);
                case "part": return x.part(with[0], with[1], with[2]);
                case "line": return x.line(with[0], with[1], with[2]);
                case "last": return x.last(with[0], with[1], with[2]);
                case "reader": return x.reader(with[0]);
                case "read": return x.read(with[0], with[1]);
                case "seen": return x.seen(with[0], with[1]);
                case "record": return x.record(with[0], with[1]);
                case "told": return x.told(with[0]);
                case "audit": return x.audit();
                default: throw new IllegalArgumentException("no call " + name);
            }
        }

        @Override
        public String toString() {
            String numbers = Arrays.toString(with);
            return name + "(" + numbers.substring(1, numbers.length() - 1) + ")";
        }
    }

    static void run(String title, String... texts) {
        List<Call> calls = calls(texts);
        Due.holds(title + ": at most 512 calls", calls.size() <= MOST_CALLS);
        TwoStepOutputs x = new TwoStepOutputs();
        for (int i = 0; i < calls.size(); i++) {
            Call call = calls.get(i);
            long got = call.on(x);
            if (call.hasDue()) Due.is(title + ": call " + i + ", " + call, got, call.due());
        }
        for (int i = 0; i < calls.size(); i++) {
            if (calls.get(i).changesNothing()) Twins.nothingChanges(title, calls.subList(0, i), calls.get(i));
        }
    }

    /** Calls with a number that rises: numbers("barrier(", 0, 2, ")=0") are three of them. */
    static String numbers(String ahead, int from, int to, String behind) {
        StringBuilder text = new StringBuilder();
        for (int i = from; i <= to; i++) text.append(ahead).append(i).append(behind).append(' ');
        return text.toString();
    }

    /** Barriers without rows. */
    static String barriers(int from, int to) {
        return numbers("barrier(", from, to, ")=0");
    }

    /** Barriers that make a part of one row each. */
    static String parts(int output, int from, int to) {
        return numbers("write(" + output + ",1,7)=1 barrier(", from, to, ")=1");
    }

    static List<Call> calls(String... texts) {
        List<Call> calls = new ArrayList<>();
        for (String text : String.join(" ", texts).trim().split("\\s+")) {
            Matcher found = CALL.matcher(text);
            if (!found.matches()) throw new IllegalArgumentException("no call: " + text);
            int times = found.group(1) == null ? 1 : Integer.parseInt(found.group(1));
            for (int i = 0; i < times; i++) calls.add(call(found));
        }
        return calls;
    }

    private static Call call(Matcher found) {
        String inside = found.group(3);
        int[] with = inside.isEmpty() ? new int[0]
                : Arrays.stream(inside.split(",")).mapToInt(text -> (int) number(text)).toArray();
        String due = found.group(5);
        String sign = due != null ? found.group(4) : found.group(6) != null ? "?" : "";
        return new Call(found.group(2), with, sign, due == null ? 0 : number(due));
    }

    private static long number(String text) {
        switch (text) {
            case "UNKNOWN": return -1;
            case "OUTSIDE": return -2;
            case "STATE": return -3;
            case "ROOM": return -4;
            case "DOWN": return -5;
            case "NONE": return -6;
            case "NO": return Long.MIN_VALUE;
            case "MIN": return Integer.MIN_VALUE;
            case "MAX": return Integer.MAX_VALUE;
            default: return Long.parseLong(text);
        }
    }
}
