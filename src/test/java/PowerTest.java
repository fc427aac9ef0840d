import java.util.ArrayList;
import java.util.List;

/**
 * One piece of work, done over and over with power failing at each of its acts in turn: once it is opened and what was
 * lost is written again, the same rows must be out there as when power stays, each once, whatever act it was.
 */
public final class PowerTest {
    private static final int DOWN = -5, NONE = -6;
    private static final int MARKS = 4;

    private final TwoStepOutputs x = new TwoStepOutputs();
    private int rowsRead = 0;

    public static void main(String[] args) {
        List<String> whole = new PowerTest().work(NONE, 0);
        int acts = new PowerTest().actsOfWork();
        Due.holds("the work has acts", acts > 20);
        for (int k = 1; k <= acts + 1; k++) {
            for (int toFail = 0; toFail <= 2; toFail++) {
                List<String> again = new PowerTest().work(k, toFail);
                Due.holds("power fails at act " + k + ", " + toFail + " tries fail: " + again, again.equals(whole));
            }
        }
        failsAtEachActOfGiving();
        Due.end("PowerTest");
    }

    private int actsOfWork() {
        work(NONE, 0);
        return x.told(6);
    }

    private List<String> work(int k, int toFail) {
        x.output(0);
        x.output(1);
        x.output(0);
        x.reader(0);
        x.power(k);
        for (int mark = 1; mark <= MARKS; mark++) {
            if (stepOf(mark) == DOWN) recover(mark, toFail);
            Due.is("audit", x.audit(), 0);
            rowsRead += x.read(0, 100);
        }
        for (int i = 0; i < 3; i++) x.show();
        rowsRead += x.read(0, 100);
        Due.is("a reader went over each row once", rowsRead, x.about(0, 3));
        Due.is("nothing waits", x.about(0, 6) + x.about(1, 6) + x.about(2, 6), 0);
        return outThere();
    }

    /** A step whose mark was kept is settled by opening; one whose mark was not is done again. */
    private void recover(int mark, int toFail) {
        Due.is("down", x.told(5), 1);
        Due.is("open part", x.about(0, 1), 0);
        Due.is("audit while down", x.audit(), 0);
        rowsRead += x.read(0, 100);
        x.fails(0, toFail);
        x.open();
        Due.is("up", x.told(5), 0);
        if (x.told(2) < mark) Due.holds("the step is done at last", stepOf(mark) != DOWN);
    }

    private int stepOf(int mark) {
        for (int i = 0; i < 3; i++) x.write(0, i, 10 * mark + i);
        for (int i = 0; i < 4; i++) x.write(1, i % 2 + mark, 20 * mark + i);
        if (mark % 2 == 0) x.write(2, mark, 30 * mark);
        if (mark == MARKS) return x.end(mark);
        return x.barrier(mark) == DOWN ? DOWN : x.keep(mark);
    }

    /** Parts and places differ by what was lost, so that they are not told here. */
    private List<String> outThere() {
        List<String> rows = new ArrayList<>();
        for (int o = 0; o < 3; o += 2) {
            for (int i = 0; i < x.about(o, 3); i++) rows.add(o + ":" + x.line(o, i, 0) + "=" + x.line(o, i, 1));
        }
        for (int key = 0; key < 10; key++) rows.add("1:" + key + "=" + x.last(1, key, 0));
        return rows;
    }

    private static void failsAtEachActOfGiving() {
        for (int k = 1; k <= 6; k++) {
            TwoStepOutputs x = new TwoStepOutputs();
            x.output(0);
            x.output(1);
            for (int mark = 1; mark <= 3; mark++) {
                x.write(0, mark, mark);
                x.write(1, mark, mark);
                x.barrier(mark);
            }
            x.keep(1);
            x.power(k);
            boolean fails = k <= 4;
            Due.is("give(2), power " + k, x.give(2), fails ? DOWN : 4);
            Due.is("opened", x.open(), fails ? 5 - k : 0);
            for (int o = 0; o < 2; o++) {
                Due.is("shown", x.part(o, 0, 2), 2);
                Due.is("gone", x.part(o, 1, 2), 3);
                Due.is("gone, too", x.part(o, 2, 2), 3);
            }
            Due.is("told again", x.barrier(2), 0);
        }
    }
}
