/** For each promise of the document its ordinary inputs, its edges, and wrong inputs in the order in which they count. */
public final class PromisesTest {
    private static final int UNKNOWN = -1, OUTSIDE = -2, STATE = -3, ROOM = -4, DOWN = -5, NONE = -6;
    private static final long NO = Long.MIN_VALUE;
    private static final int LINES = 0, TABLE = 1;

    public static void main(String[] args) {
        newObject();
        output();
        outputRefused();
        write();
        writeRefused();
        barrier();
        barrierMarks();
        barrierRefused();
        barrierRoom();
        keep();
        keepOnlySome();
        keepRefused();
        show();
        give();
        giveRefused();
        end();
        endRefused();
        fails();
        power();
        open();
        openWhileUp();
        openAfterTheEnd();
        about();
        part();
        line();
        last();
        tableDropsWhatIsOlder();
        reader();
        read();
        seen();
        record();
        told();
        audit();
        Due.end("PromisesTest");
    }

    private static TwoStepOutputs with(int... sorts) {
        TwoStepOutputs x = new TwoStepOutputs();
        for (int sort : sorts) x.output(sort);
        return x;
    }

    private static void write(TwoStepOutputs x, int output, int... keys) {
        for (int key : keys) x.write(output, key, 100 + key);
    }

    /** An object without power, with THE MARK 5 and a BARRIER 7 above it. */
    private static TwoStepOutputs downWith(int... sorts) {
        TwoStepOutputs x = with(sorts);
        write(x, 0, 1);
        x.barrier(5);
        x.keep(5);
        x.barrier(7);
        write(x, 0, 2);
        x.power(1);
        Due.is("barrier(8) without power", x.barrier(8), DOWN);
        return x;
    }

    private static void newObject() {
        TwoStepOutputs x = new TwoStepOutputs();
        int[] due = {0, 0, NONE, NONE, 0, 0, 0, 0, 0};
        for (int what = 0; what < due.length; what++) Due.is("new: told(" + what + ")", x.told(what), due[what]);
        Due.is("new: about", x.about(0, 0), UNKNOWN);
        Due.is("new: record", x.record(0, 0), UNKNOWN);
        Due.is("new: audit", x.audit(), 0);
        Due.is("new: show", x.show(), 0);
        Due.is("new: open", x.open(), 0);
        TwoStepOutputs y = with(LINES);
        Due.is("another object is not touched", x.told(0), 0);
        Due.is("the one that was", y.told(0), 1);
    }

    private static void output() {
        TwoStepOutputs x = new TwoStepOutputs();
        Due.is("output(1)", x.output(TABLE), 0);
        Due.is("output(0)", x.output(LINES), 1);
        Due.is("output(1) again", x.output(TABLE), 2);
        Due.is("a fourth output", x.output(LINES), ROOM);
        Due.is("sort 2 ahead of ROOM", x.output(2), OUTSIDE);
        Due.is("sort -1", x.output(-1), OUTSIDE);
        Due.is("outputs", x.told(0), 3);
        Due.is("sort of 0", x.about(0, 0), TABLE);
        Due.is("sort of 1", x.about(1, 0), LINES);
    }

    private static void outputRefused() {
        TwoStepOutputs x = with(LINES);
        x.barrier(0);
        Due.is("output behind a barrier", x.output(LINES), STATE);
        x.give(0);
        Due.is("output behind a barrier given up", x.output(LINES), STATE);
        Due.is("STATE ahead of ROOM", behindBarrierAndFull().output(LINES), STATE);
        TwoStepOutputs y = downWith(LINES);
        Due.is("DOWN ahead of STATE", y.output(LINES), DOWN);
        Due.is("OUTSIDE ahead of DOWN", y.output(9), OUTSIDE);
        TwoStepOutputs z = with(LINES);
        write(z, 0, 1);
        z.power(1);
        z.barrier(1);
        z.open();
        Due.is("told(7) counts a barrier at which power failed", z.told(7), 1);
        Due.is("so one was made", z.output(LINES), STATE);
    }

    private static TwoStepOutputs behindBarrierAndFull() {
        TwoStepOutputs x = with(LINES, LINES, LINES);
        x.barrier(1);
        return x;
    }

    private static void write() {
        TwoStepOutputs x = with(LINES, TABLE);
        for (int i = 1; i <= 20; i++) Due.is("row " + i, x.write(0, i % 10, -i), i);
        Due.is("row 21", x.write(0, 0, 0), ROOM);
        Due.is("rows", x.about(0, 1), 20);
        Due.is("another output has room", x.write(1, 9, Integer.MIN_VALUE), 1);
        Due.is("nothing on the disk", x.told(1), 0);
        Due.is("no act", x.told(6), 0);
        x.barrier(1);
        Due.is("room behind the barrier", x.write(0, 0, 0), 1);
    }

    private static void writeRefused() {
        TwoStepOutputs x = with(LINES);
        Due.is("no such output", x.write(1, 10, 0), UNKNOWN);
        Due.is("output -1", x.write(-1, 0, 0), UNKNOWN);
        Due.is("key 10", x.write(0, 10, 0), OUTSIDE);
        Due.is("key -1", x.write(0, -1, 0), OUTSIDE);
        Due.is("refused rows are not there", x.about(0, 1), 0);
        TwoStepOutputs y = downWith(LINES);
        Due.is("down", y.write(0, 0, 0), DOWN);
        Due.is("OUTSIDE ahead of DOWN", y.write(0, 10, 0), OUTSIDE);
        x.end(1);
        Due.is("the end", x.write(0, 0, 0), STATE);
        Due.is("OUTSIDE ahead of STATE", x.write(0, 10, 0), OUTSIDE);
    }

    private static void barrier() {
        TwoStepOutputs x = with(LINES, TABLE, LINES);
        write(x, 2, 4, 5);
        write(x, 0, 6);
        Due.is("barrier(3)", x.barrier(3), 3);
        int[][] due = {
            {0, 0, 0, 6, 106}, {1, 0, 0, 3, NONE},
            {0, 2, 0, 4, 104}, {0, 2, 0, 5, 105}, {1, 2, 0, 3, NONE}};
        Due.is("records", x.told(1), due.length);
        for (int i = 0; i < due.length; i++) {
            for (int what = 0; what < 5; what++) Due.is("record(" + i + ", " + what + ")", x.record(i, what), due[i][what]);
        }
        Due.is("open part", x.about(2, 1), 0);
        Due.is("an empty open part is no part", x.about(1, 2), 0);
        Due.is("nothing is shown", x.about(0, 3), 0);
        Due.is("acts", x.told(6), 5);
        write(x, 2, 1);
        Due.is("barrier(4)", x.barrier(4), 1);
        Due.is("parts are numbered by outputs", x.about(2, 2), 2);
        Due.is("part 1", x.part(2, 1, 0), 4);
        Due.is("a barrier without rows", x.barrier(5), 0);
        Due.is("barriers", x.told(7), 3);
    }

    private static void barrierMarks() {
        TwoStepOutputs x = with(LINES);
        Due.is("mark -1", x.barrier(-1), OUTSIDE);
        Due.is("mark 1,000,001", x.barrier(1_000_001), OUTSIDE);
        Due.is("mark 0", x.barrier(0), 0);
        Due.is("mark 0 again", x.barrier(0), OUTSIDE);
        Due.is("mark 9", x.barrier(9), 0);
        Due.is("mark 8", x.barrier(8), OUTSIDE);
        x.give(9);
        Due.is("mark 8 when 9 is given up", x.barrier(8), 0);
        Due.is("mark 1,000,000", x.barrier(1_000_000), 0);
        Due.is("none is above", x.barrier(1_000_000), OUTSIDE);
        Due.is("barriers made", x.told(7), 4);
        TwoStepOutputs y = with(LINES);
        y.barrier(5);
        y.keep(5);
        y.give(6);
        Due.is("not above the mark", y.barrier(5), OUTSIDE);
        y.open();
        Due.is("not above the mark, opened", y.barrier(4), OUTSIDE);
        Due.is("above it", y.barrier(6), 0);
    }

    private static void barrierRefused() {
        TwoStepOutputs x = downWith(LINES);
        Due.is("OUTSIDE ahead of DOWN", x.barrier(7), OUTSIDE);
        Due.is("one at which power failed is none", x.barrier(8), DOWN);
        Due.is("down", x.barrier(9), DOWN);
        Due.is("a refused one is not counted", x.told(7), 3);
        TwoStepOutputs y = with(LINES);
        y.end(4);
        Due.is("the end", y.barrier(5), STATE);
        Due.is("OUTSIDE ahead of STATE", y.barrier(4), OUTSIDE);
    }

    private static void barrierRoom() {
        TwoStepOutputs x = with(LINES);
        for (int mark = 0; mark < 200; mark++) Due.is("barrier " + mark, x.barrier(mark), 0);
        Due.is("barrier 201", x.barrier(200), ROOM);
        Due.is("the end is one, too", x.end(200), ROOM);
        x.give(0);
        Due.is("given up or not", x.barrier(200), ROOM);
        TwoStepOutputs y = with(LINES, TABLE);
        for (int mark = 0; mark < 49; mark++) writeBoth(y, mark);
        write(y, 0, 1);
        y.power(2);
        Due.is("power fails", y.barrier(60), DOWN);
        y.open();
        Due.is("a part that is not closed has a number", y.about(0, 2), 50);
        write(y, 0, 1);
        write(y, 1, 1);
        Due.is("101 parts", y.barrier(70), ROOM);
        Due.is("101 parts by the end", y.end(70), ROOM);
        Due.is("rows are still there", y.about(0, 1) + y.about(1, 1), 2);
        y.give(70);
        write(y, 1, 1);
        Due.is("100 parts", y.barrier(70), 1);
        Due.is("none more, but nothing to close", y.barrier(71), 0);
        write(y, 1, 1);
        Due.is("a part more", y.barrier(72), ROOM);
    }

    private static void writeBoth(TwoStepOutputs x, int mark) {
        write(x, 0, 1);
        write(x, 1, 1);
        Due.is("barrier " + mark, x.barrier(mark), 2);
    }

    private static void keep() {
        TwoStepOutputs x = with(TABLE, LINES);
        write(x, 1, 1, 2);
        write(x, 0, 3, 3);
        x.barrier(2);
        Due.is("keep(2)", x.keep(2), 4);
        int[][] due = {{2, NONE, NONE, 2, NONE}, {3, 0, 0, NONE, NONE}, {3, 1, 0, NONE, NONE}};
        for (int i = 0; i < due.length; i++) {
            for (int what = 0; what < 5; what++) Due.is("record of keep", x.record(6 + i, what), due[i][what]);
        }
        Due.is("records", x.told(1), 9);
        Due.is("acts", x.told(6), 13);
        Due.is("the mark", x.told(2), 2);
        Due.is("lines", x.about(1, 3), 2);
        Due.is("keys", x.about(0, 3), 1);
        Due.is("parts are shown", x.part(0, 0, 2) + x.part(1, 0, 2), 4);
    }

    private static void keepOnlySome() {
        TwoStepOutputs x = with(LINES);
        for (int mark = 1; mark <= 4; mark++) {
            write(x, 0, mark);
            x.barrier(mark);
        }
        Due.is("keep(2) shows 1 and 2", x.keep(2), 2);
        Due.is("first", x.line(0, 0, 0), 1);
        Due.is("second", x.line(0, 1, 0), 2);
        Due.is("waiting", x.about(0, 6), 2);
        Due.is("keep(1)", x.keep(1), OUTSIDE);
        write(x, 0, 9);
        Due.is("keep(4)", x.keep(4), 2);
        Due.is("rows of the open part stay there", x.about(0, 1), 1);
        Due.is("out there", x.about(0, 3), 4);
    }

    private static void keepRefused() {
        TwoStepOutputs x = with(LINES);
        Due.is("no barrier", x.keep(0), OUTSIDE);
        x.barrier(3);
        Due.is("no barrier's mark", x.keep(2), OUTSIDE);
        Due.is("a mark above", x.keep(4), OUTSIDE);
        Due.is("NONE", x.keep(NONE), OUTSIDE);
        Due.is("keep(3)", x.keep(3), 0);
        Due.is("kept already", x.keep(3), OUTSIDE);
        x.barrier(4);
        x.give(4);
        Due.is("given up", x.keep(4), OUTSIDE);
        TwoStepOutputs y = downWith(LINES);
        Due.is("OUTSIDE ahead of DOWN", y.keep(8), OUTSIDE);
        Due.is("down", y.keep(7), DOWN);
        y.open();
        Due.is("none any more when it is opened", y.keep(7), OUTSIDE);
    }

    private static void show() {
        TwoStepOutputs x = with(LINES, LINES);
        write(x, 0, 1);
        write(x, 1, 2, 3);
        x.barrier(1);
        Due.is("no mark is kept", x.show(), 0);
        Due.is("no try", x.about(0, 4), 0);
        x.fails(0, 1);
        x.fails(1, 2);
        Due.is("keep(1)", x.keep(1), 0);
        Due.is("show", x.show(), 1);
        Due.is("show again", x.show(), 2);
        Due.is("nothing waits", x.show(), 0);
        Due.is("down", downWith(LINES).show(), DOWN);
        write(x, 0, 1);
        x.barrier(2);
        x.fails(0, 1);
        x.keep(2);
        x.power(1);
        Due.is("power fails by it", x.show(), DOWN);
        Due.is("a try at which power fails is one", x.about(0, 4), 4);
    }

    private static void give() {
        TwoStepOutputs x = with(LINES, TABLE);
        for (int mark = 1; mark <= 3; mark++) {
            write(x, 0, mark, mark);
            write(x, 1, mark);
            x.barrier(mark);
        }
        write(x, 0, 9, 9, 9);
        write(x, 1, 9);
        x.keep(1);
        int records = x.told(1);
        Due.is("give(2)", x.give(2), 2 * 3 + 3 + 1);
        int[][] due = {{4, 0, 1, NONE, NONE}, {4, 0, 2, NONE, NONE}, {4, 1, 1, NONE, NONE}, {4, 1, 2, NONE, NONE}};
        Due.is("records", x.told(1), records + due.length);
        for (int i = 0; i < due.length; i++) {
            for (int what = 0; what < 5; what++) Due.is("record of give", x.record(records + i, what), due[i][what]);
        }
        Due.is("open parts", x.about(0, 1) + x.about(1, 1), 0);
        Due.is("a part that is shown stays", x.part(0, 0, 2), 2);
        Due.is("a part that is gone", x.part(0, 2, 2), 3);
        Due.is("its mark", x.part(0, 2, 0), 3);
        Due.is("greatest mark", x.told(3), 1);
        Due.is("such a mark again", x.barrier(2), 0);
        Due.is("what is gone does not come", x.keep(2), 0);
        Due.is("give it up again", x.give(3), 0);
    }

    private static void giveRefused() {
        TwoStepOutputs x = with(LINES);
        Due.is("mark -1", x.give(-1), OUTSIDE);
        Due.is("mark 1,000,001", x.give(1_000_001), OUTSIDE);
        write(x, 0, 1);
        Due.is("open parts alone", x.give(1_000_000), 1);
        write(x, 0, 1);
        Due.is("from 0 on", x.give(0), 1);
        x.barrier(3);
        x.keep(3);
        Due.is("the mark", x.give(3), OUTSIDE);
        x.barrier(5);
        Due.is("between barriers", x.give(4), 0);
        Due.is("greatest mark", x.told(3), 3);
        TwoStepOutputs y = downWith(LINES);
        Due.is("down", y.give(6), DOWN);
        Due.is("OUTSIDE ahead of DOWN", y.give(5), OUTSIDE);
        write(x, 0, 1);
        x.barrier(6);
        write(x, 0, 1);
        x.power(1);
        Due.is("power fails by it", x.give(6), DOWN);
        Due.is("not gone", x.part(0, 0, 2), 1);
        Due.is("open part", x.about(0, 1), 0);
        Due.is("opened", x.open(), 1);
        Due.is("gone", x.part(0, 0, 2), 3);
    }

    private static void end() {
        TwoStepOutputs x = with(LINES);
        write(x, 0, 1);
        x.barrier(1);
        write(x, 0, 2, 3);
        Due.is("end(2)", x.end(2), 3);
        Due.is("it was the end", x.told(4), 1);
        Due.is("the mark", x.told(2), 2);
        Due.is("barriers", x.told(7), 2);
        Due.is("kind 5", x.record(5, 0), 5);
        Due.is("its output", x.record(5, 1), NONE);
        Due.is("its part", x.record(5, 2), NONE);
        Due.is("its mark", x.record(5, 3), 2);
        Due.is("its value", x.record(5, 4), NONE);
        Due.is("no barrier", x.barrier(3), STATE);
        Due.is("no second end", x.end(3), STATE);
        Due.is("giving up is free", x.give(3), 0);
        Due.is("showing, too", x.show(), 0);
        TwoStepOutputs y = with(LINES);
        write(y, 0, 1);
        y.power(3);
        Due.is("power fails at the record of the end", y.end(1), DOWN);
        Due.is("it was not", y.told(4), 0);
        Due.is("the part is closed", y.part(0, 0, 2), 1);
        Due.is("and gone", y.open(), 1);
        write(y, 0, 2);
        y.power(4);
        Due.is("power fails behind it", y.end(1), DOWN);
        Due.is("it was the end", y.told(4), 1);
        Due.is("shown", y.open(), 1);
        Due.is("the row", y.line(0, 0, 0), 2);
    }

    private static void endRefused() {
        TwoStepOutputs x = with(LINES);
        Due.is("mark -1", x.end(-1), OUTSIDE);
        Due.is("mark 1,000,001", x.end(1_000_001), OUTSIDE);
        x.barrier(4);
        Due.is("not above", x.end(4), OUTSIDE);
        Due.is("not the end", x.told(4), 0);
        TwoStepOutputs y = downWith(LINES);
        Due.is("down", y.end(8), DOWN);
        Due.is("OUTSIDE ahead of DOWN", y.end(7), OUTSIDE);
        Due.is("end", x.end(5), 0);
        Due.is("OUTSIDE ahead of STATE", x.end(5), OUTSIDE);
    }

    private static void fails() {
        TwoStepOutputs x = with(LINES, TABLE);
        Due.is("none were to", x.fails(0, 100), 0);
        Due.is("100 were to", x.fails(0, 2), 100);
        Due.is("n is 101", x.fails(0, 101), OUTSIDE);
        Due.is("n is -1", x.fails(0, -1), OUTSIDE);
        Due.is("no such output", x.fails(2, 101), UNKNOWN);
        for (int mark = 1; mark <= 2; mark++) {
            write(x, 0, mark);
            write(x, 1, mark);
            x.barrier(mark);
        }
        Due.is("only the other output comes", x.keep(2), 2);
        Due.is("one less is to fail", x.about(0, 5), 1);
        Due.is("one try: the other parts wait", x.about(0, 4), 1);
        Due.is("two tries of the other", x.about(1, 4), 2);
        Due.is("again", x.show(), 0);
        Due.is("none is to fail", x.about(0, 5), 0);
        Due.is("now both parts come", x.show(), 2);
        Due.is("tries", x.about(0, 4), 4);
        TwoStepOutputs y = downWith(LINES);
        Due.is("while it is down", y.fails(0, 3), 0);
        y.open();
        Due.is("it stays when it is opened", y.about(0, 5), 3);
        Due.is("nothing fails", y.fails(0, 0), 3);
    }

    private static void power() {
        TwoStepOutputs x = with(LINES);
        Due.is("k is 0", x.power(0), OUTSIDE);
        Due.is("k is 5,001", x.power(5_001), OUTSIDE);
        Due.is("k is -1", x.power(-1), OUTSIDE);
        Due.is("k is 5,000", x.power(5_000), 1);
        Due.is("k is 1", x.power(1), 1);
        Due.is("no act, no failure", x.barrier(0), 0);
        Due.is("it stays", x.power(NONE), 1);
        write(x, 0, 1);
        Due.is("barrier(1)", x.barrier(1), 1);
        write(x, 0, 1, 2);
        x.power(3);
        Due.is("fails at the third act", x.barrier(2), DOWN);
        Due.is("two acts more", x.told(6), 4);
        Due.is("two records more", x.told(1), 4);
        Due.is("down", x.power(1), DOWN);
        Due.is("NONE while down", x.power(NONE), DOWN);
        Due.is("OUTSIDE ahead of DOWN", x.power(0), OUTSIDE);
        x.open();
        write(x, 0, 3);
        Due.is("it failed once", x.barrier(2), 1);
        x.power(2);
        x.power(4);
        Due.is("the later word counts", x.keep(2), 1);
        write(x, 0, 4);
        Due.is("acts of many calls", x.barrier(3), DOWN);
    }

    private static void open() {
        TwoStepOutputs x = with(LINES, TABLE);
        write(x, 0, 1, 2);
        write(x, 1, 3);
        x.barrier(1);
        write(x, 0, 4);
        x.barrier(2);
        write(x, 0, 5);
        x.power(3);
        Due.is("keep(1)", x.keep(1), DOWN);
        Due.is("the mark is kept", x.told(2), 1);
        Due.is("open part", x.about(0, 1), 0);
        Due.is("one row is out", x.about(0, 3), 1);
        int records = x.told(1);
        int acts = x.told(6);
        Due.is("one gone, two shown", x.open(), 3);
        int[][] due = {{4, 0, 1}, {3, 0, 0}, {3, 1, 0}};
        for (int i = 0; i < due.length; i++) {
            for (int what = 0; what < 3; what++) Due.is("record of open", x.record(records + i, what), due[i][what]);
        }
        Due.is("dropped rows are acts", x.told(6), acts + 6);
        Due.is("no row twice", x.about(0, 3), 2);
        Due.is("up", x.told(5), 0);
        Due.is("greatest mark", x.told(3), 1);
        write(x, 0, 1, 2);
        x.power(2);
        x.barrier(2);
        Due.is("not closed", x.part(0, 2, 0), NONE);
        Due.is("its rows", x.part(0, 2, 1), 1);
        Due.is("nothing to settle", x.open(), 0);
        Due.is("it stays not closed", x.part(0, 2, 2), 0);
        write(x, 0, 7);
        x.barrier(2);
        Due.is("its number is not given again", x.part(0, 3, 0), 2);
        x.keep(2);
        Due.is("nothing comes of it", x.line(0, 2, 0), 7);
        write(x, 0, 8);
        x.power(1);
        x.barrier(3);
        x.open();
        Due.is("no record, no number", x.about(0, 2), 4);
    }

    private static void openWhileUp() {
        TwoStepOutputs x = with(LINES);
        write(x, 0, 1);
        x.barrier(1);
        x.fails(0, 2);
        x.keep(1);
        write(x, 0, 2);
        x.barrier(4);
        write(x, 0, 3);
        x.power(1);
        Due.is("one gone, the other's try fails", x.open(), 1);
        Due.is("open part", x.about(0, 1), 0);
        Due.is("tries", x.about(0, 4), 2);
        Due.is("to fail", x.about(0, 5), 0);
        Due.is("power stays", x.show(), 1);
        Due.is("marks may be told again", x.barrier(2), 0);
        Due.is("barriers made", x.told(7), 3);
    }

    private static void openAfterTheEnd() {
        TwoStepOutputs x = with(LINES);
        write(x, 0, 1);
        x.fails(0, 1);
        x.end(3);
        Due.is("open", x.open(), 1);
        Due.is("it was the end", x.told(4), 1);
        Due.is("write", x.write(0, 1, 1), STATE);
        Due.is("the mark", x.told(2), 3);
    }

    private static void about() {
        TwoStepOutputs x = with(TABLE, LINES);
        write(x, 0, 1, 1, 2);
        x.barrier(1);
        write(x, 0, 1);
        x.barrier(2);
        x.keep(1);
        write(x, 0, 5, 5);
        x.fails(0, 7);
        int[] due = {TABLE, 2, 2, 2, 1, 7, 1};
        for (int what = 0; what < due.length; what++) Due.is("about(0, " + what + ")", x.about(0, what), due[what]);
        Due.is("what 7", x.about(0, 7), OUTSIDE);
        Due.is("what -1", x.about(0, -1), OUTSIDE);
        Due.is("no such output", x.about(2, 7), UNKNOWN);
        Due.is("output -1", x.about(-1, 0), UNKNOWN);
        x.give(2);
        Due.is("gone parts do not wait", x.about(0, 6), 0);
    }

    private static void part() {
        TwoStepOutputs x = with(LINES);
        write(x, 0, 1, 2, 3);
        Due.is("an open part has no number", x.part(0, 0, 0), UNKNOWN);
        x.barrier(6);
        Due.is("mark", x.part(0, 0, 0), 6);
        Due.is("rows", x.part(0, 0, 1), 3);
        Due.is("closed", x.part(0, 0, 2), 1);
        Due.is("what 3", x.part(0, 0, 3), OUTSIDE);
        Due.is("what -1", x.part(0, 0, -1), OUTSIDE);
        Due.is("no such part", x.part(0, 1, 3), UNKNOWN);
        Due.is("part -1", x.part(0, -1, 0), UNKNOWN);
        Due.is("no such output", x.part(1, 0, 0), UNKNOWN);
        x.keep(6);
        Due.is("shown", x.part(0, 0, 2), 2);
        Due.is("mark when shown", x.part(0, 0, 0), 6);
    }

    private static void line() {
        TwoStepOutputs x = with(LINES, TABLE);
        x.write(0, 3, Integer.MIN_VALUE);
        x.barrier(1);
        x.write(0, 4, NONE);
        x.write(0, 5, Integer.MAX_VALUE);
        x.write(1, 5, 5);
        x.barrier(2);
        Due.is("nothing is out there", x.line(0, 0, 0), NO);
        x.keep(2);
        long[][] due = {{3, Integer.MIN_VALUE, 0, 0}, {4, NONE, 1, 0}, {5, Integer.MAX_VALUE, 1, 1}};
        for (int i = 0; i < due.length; i++) {
            for (int what = 0; what < 4; what++) Due.is("line(0, " + i + ", " + what + ")", x.line(0, i, what), due[i][what]);
        }
        Due.is("row 3", x.line(0, 3, 0), NO);
        Due.is("row -1", x.line(0, -1, 0), NO);
        Due.is("what 4", x.line(0, 0, 4), NO);
        Due.is("what -1", x.line(0, 1, -1), NO);
        Due.is("a table", x.line(1, 0, 0), NO);
        Due.is("no such output", x.line(2, 0, 0), NO);
    }

    private static void last() {
        TwoStepOutputs x = with(TABLE, LINES);
        x.write(0, 9, 1);
        x.write(0, 9, Integer.MIN_VALUE);
        x.write(0, 0, 3);
        x.write(1, 0, 3);
        x.barrier(1);
        Due.is("nothing is out there", x.last(0, 9, 0), NO);
        Due.is("all rows came", x.keep(1), 4);
        Due.is("value", x.last(0, 9, 0), Integer.MIN_VALUE);
        Due.is("part", x.last(0, 9, 1), 0);
        Due.is("place", x.last(0, 9, 2), 1);
        Due.is("key 0", x.last(0, 0, 2), 2);
        Due.is("a key without a value", x.last(0, 1, 0), NO);
        Due.is("key 10", x.last(0, 10, 0), NO);
        Due.is("key -1", x.last(0, -1, 0), NO);
        Due.is("what 3", x.last(0, 9, 3), NO);
        Due.is("what -1", x.last(0, 9, -1), NO);
        Due.is("lines", x.last(1, 0, 0), NO);
        Due.is("no such output", x.last(2, 0, 0), NO);
        x.write(0, 9, 8);
        x.barrier(2);
        x.keep(2);
        Due.is("a greater part", x.last(0, 9, 0), 8);
        Due.is("its number", x.last(0, 9, 1), 1);
        Due.is("its place", x.last(0, 9, 2), 0);
    }

    private static void tableDropsWhatIsOlder() {
        TwoStepOutputs x = with(TABLE);
        x.write(0, 1, 10);
        x.write(0, 1, 11);
        x.write(0, 2, 12);
        x.barrier(1);
        x.power(5);
        Due.is("power fails ahead of SHOWN", x.keep(1), DOWN);
        x.fails(0, 1);
        Due.is("the try fails", x.open(), 0);
        Due.is("all are dropped", x.show(), 0);
        Due.is("the last value stays", x.last(0, 1, 0), 11);
        TwoStepOutputs y = with(TABLE);
        y.write(0, 1, 10);
        y.write(0, 1, 11);
        y.write(0, 2, 12);
        y.barrier(1);
        y.power(3);
        y.keep(1);
        Due.is("the first row is out", y.last(0, 1, 0), 10);
        y.fails(0, 1);
        y.open();
        Due.is("one is dropped, two are not", y.show(), 2);
    }

    private static void reader() {
        TwoStepOutputs x = with(LINES, TABLE, LINES);
        Due.is("reader 0", x.reader(0), 0);
        Due.is("a table", x.reader(1), STATE);
        Due.is("no such output", x.reader(3), UNKNOWN);
        Due.is("output -1", x.reader(-1), UNKNOWN);
        Due.is("reader 1", x.reader(2), 1);
        write(x, 0, 1);
        x.barrier(1);
        x.keep(1);
        Due.is("reader 2", x.reader(0), 2);
        Due.is("it begins at the first row", x.read(2, 9), 1);
        Due.is("reader 3", x.reader(0), 3);
        Due.is("a fifth", x.reader(0), ROOM);
        Due.is("STATE ahead of ROOM", x.reader(1), STATE);
        Due.is("readers", x.told(8), 4);
        Due.is("while it is down", downWith(LINES).reader(0), 0);
    }

    private static void read() {
        TwoStepOutputs x = with(LINES, LINES);
        x.reader(0);
        x.reader(0);
        x.reader(1);
        Due.is("nothing yet", x.read(0, 1), 0);
        Due.is("n is 0", x.read(0, 0), OUTSIDE);
        Due.is("n is 101", x.read(0, 101), OUTSIDE);
        Due.is("no such reader", x.read(3, 0), UNKNOWN);
        Due.is("reader -1", x.read(-1, 1), UNKNOWN);
        for (int mark = 1; mark <= 6; mark++) {
            write(x, 0, 0, 1, 2, 3, 4, 5, 6, 7, 8, 9, 0, 1, 2, 3, 4, 5, 6, 7, 8, 9);
            x.barrier(mark);
        }
        Due.is("closed is not shown", x.read(0, 100), 0);
        x.keep(6);
        Due.is("read 7", x.read(0, 7), 7);
        Due.is("read 100", x.read(0, 100), 100);
        Due.is("the rest", x.read(0, 100), 13);
        Due.is("the end of it", x.read(0, 1), 0);
        Due.is("another goes by itself", x.read(1, 1), 1);
        Due.is("another output", x.read(2, 100), 0);
        write(x, 0, 1);
        x.power(1);
        x.barrier(7);
        x.open();
        write(x, 0, 5);
        x.barrier(7);
        x.keep(7);
        Due.is("it goes on from where it is", x.read(0, 100), 1);
        Due.is("in all", x.seen(0, NONE), 121);
    }

    private static void seen() {
        TwoStepOutputs x = with(LINES);
        x.reader(0);
        write(x, 0, 1, 1, 2, 9);
        x.barrier(1);
        x.keep(1);
        Due.is("nothing read yet", x.seen(0, NONE), 0);
        x.read(0, 2);
        Due.is("key 1", x.seen(0, 1), 2);
        Due.is("key 2", x.seen(0, 2), 0);
        Due.is("any", x.seen(0, NONE), 2);
        x.read(0, 2);
        Due.is("key 9", x.seen(0, 9), 1);
        Due.is("key 0", x.seen(0, 0), 0);
        Due.is("any of four", x.seen(0, NONE), 4);
        Due.is("key 10", x.seen(0, 10), OUTSIDE);
        Due.is("key -1", x.seen(0, -1), OUTSIDE);
        Due.is("no such reader", x.seen(1, 10), UNKNOWN);
        Due.is("reader -1", x.seen(-1, 0), UNKNOWN);
    }

    private static void record() {
        TwoStepOutputs x = with(LINES);
        x.write(0, 7, -5);
        x.barrier(1);
        Due.is("value", x.record(0, 4), -5);
        Due.is("key", x.record(0, 3), 7);
        Due.is("what 5", x.record(0, 5), OUTSIDE);
        Due.is("what -1", x.record(1, -1), OUTSIDE);
        Due.is("no such record", x.record(2, 5), UNKNOWN);
        Due.is("record -1", x.record(-1, 0), UNKNOWN);
        x.keep(1);
        Due.is("records stay", x.record(0, 0), 0);
        Due.is("kept", x.record(2, 0), 2);
        Due.is("shown", x.record(3, 0), 3);
    }

    private static void told() {
        TwoStepOutputs x = with(LINES, TABLE);
        x.reader(0);
        write(x, 0, 1);
        x.barrier(3);
        x.keep(3);
        x.barrier(9);
        int[] due = {2, 4, 3, 9, 0, 0, 5, 2, 1};
        for (int what = 0; what < due.length; what++) Due.is("told(" + what + ")", x.told(what), due[what]);
        Due.is("what 9", x.told(9), OUTSIDE);
        Due.is("what -1", x.told(-1), OUTSIDE);
        x.give(9);
        Due.is("greatest when it is given up", x.told(3), 3);
        TwoStepOutputs y = with(LINES);
        y.barrier(0);
        Due.is("no mark is kept", y.told(2), NONE);
        Due.is("greatest of a barrier", y.told(3), 0);
        y.open();
        Due.is("opened", y.told(3), NONE);
        TwoStepOutputs z = downWith(LINES);
        Due.is("down", z.told(5), 1);
        Due.is("barriers with the one at which power failed", z.told(7), 3);
        Due.is("greatest while down", z.told(3), 7);
    }

    private static void audit() {
        TwoStepOutputs x = with(LINES, TABLE, LINES);
        for (int mark = 1; mark <= 8; mark++) {
            write(x, 0, mark, 1, mark);
            write(x, 1, mark, mark, 2);
            write(x, 2, mark);
            x.power(mark + 2);
            x.barrier(mark);
            x.keep(mark);
            Due.is("audit, down or not", x.audit(), 0);
            x.fails(mark % 3, 1);
            x.open();
            Due.is("audit, opened", x.audit(), 0);
            x.show();
            Due.is("audit, shown", x.audit(), 0);
        }
    }
}
