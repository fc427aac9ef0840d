import java.util.ArrayList;
import java.util.Arrays;

/**
 * Outputs whose rows are shown only with the mark that they belong to. The words (mark, barrier, part, act and their
 * like) are those of the document.
 */
public final class TwoStepOutputs {
    public static final int UNKNOWN = -1, OUTSIDE = -2, STATE = -3, ROOM = -4, DOWN = -5, NONE = -6;
    public static final long NO = -9223372036854775808L;

    private static final int MOST_OUTPUTS = 3, MOST_OPEN_ROWS = 20, MOST_PARTS = 100, MOST_BARRIERS = 200;
    private static final int MOST_READERS = 4, MOST_TO_READ = 100, MOST_TO_FAIL = 100, MOST_ACTS_AHEAD = 5_000;
    private static final int KEYS = 10, GREATEST_MARK = 1_000_000;

    /** Sorts of outputs. */
    private static final int LINES = 0, TABLE = 1;
    /** Kinds of records. */
    private static final int ROW = 0, PART_CLOSED = 1, MARK_KEPT = 2, PART_SHOWN = 3, PART_GONE = 4, END_KEPT = 5;
    /** What a part is. */
    private static final int UNCLOSED = 0, CLOSED = 1, SHOWN = 2, GONE = 3;

    private static final int GRANTED = 0;

    private final ArrayList<Output> outputs = new ArrayList<Output>();
    private final ArrayList<Reader> readers = new ArrayList<Reader>();
    private final Disk disk = new Disk();
    private final Barriers barriers = new Barriers();
    private int theMark = NONE;
    private boolean ended = false;
    private boolean down = false;
    /** Power fails at the act that finds 1 here; with 0 it stays. */
    private int actsToFailure = 0;
    private int acts = 0;

    public TwoStepOutputs() {
    }

    public int output(int sort) {
        if (sort != LINES && sort != TABLE) return OUTSIDE;
        if (down) return DOWN;
        if (barriers.made > 0) return STATE;
        if (outputs.size() >= MOST_OUTPUTS) return ROOM;
        int number = outputs.size();
        outputs.add(new Output(number, sort));
        return number;
    }

    public int write(int output, int key, int value) {
        Output to = outputAt(output);
        if (to == null) return UNKNOWN;
        if (!isKey(key)) return OUTSIDE;
        if (down) return DOWN;
        if (ended) return STATE;
        return to.takeRow(key, value) ? to.openRows : ROOM;
    }

    public int barrier(int mark) {
        int refusal = refusalOfBarrier(mark);
        return refusal == GRANTED ? makeBarrier(mark) : refusal;
    }

    public int keep(int mark) {
        if (mark <= theMark || !barriers.has(mark)) return OUTSIDE;
        if (down) return DOWN;
        return keepMark(MARK_KEPT, mark) ? showAll() : DOWN;
    }

    public int show() {
        return down ? DOWN : showAll();
    }

    public int give(int mark) {
        if (!isMark(mark) || mark <= theMark) return OUTSIDE;
        if (down) return DOWN;
        int rows = giveUpFrom(mark);
        if (rows != DOWN) barriers.dropFrom(mark);
        return rows;
    }

    public int end(int mark) {
        int refusal = refusalOfBarrier(mark);
        if (refusal != GRANTED) return refusal;
        if (makeBarrier(mark) == DOWN || !keepMark(END_KEPT, mark)) return DOWN;
        return showAll();
    }

    public int fails(int output, int n) {
        Output of = outputAt(output);
        if (of == null) return UNKNOWN;
        if (n < 0 || n > MOST_TO_FAIL) return OUTSIDE;
        int before = of.triesToFail;
        of.triesToFail = n;
        return before;
    }

    public int power(int k) {
        if (k != NONE && (k < 1 || k > MOST_ACTS_AHEAD)) return OUTSIDE;
        if (down) return DOWN;
        actsToFailure = k == NONE ? 0 : k;
        return 1;
    }

    /**
     * The mark, the end and the parts change only together with their records, so they are as the records tell already.
     * Nothing but "gone" and "shown" is written here, one record a part: the new records are the answer.
     */
    public int open() {
        int recordsBefore = disk.count();
        down = false;
        actsToFailure = 0;
        emptyOpenParts();
        barriers.dropFrom(theMark + 1);
        giveUpFrom(theMark + 1);
        showAll();
        return disk.count() - recordsBefore;
    }

    public int about(int output, int what) {
        Output of = outputAt(output);
        if (of == null) return UNKNOWN;
        switch (what) {
            case 0: return of.sort;
            case 1: return of.openRows;
            case 2: return of.parts.size();
            case 3: return of.sort == LINES ? of.lines.count() : of.table.count;
            case 4: return of.triesMade;
            case 5: return of.triesToFail;
            case 6: return of.waitingParts();
            default: return OUTSIDE;
        }
    }

    public int part(int output, int p, int what) {
        Output of = outputAt(output);
        Part found = of == null ? null : of.partAt(p);
        if (found == null) return UNKNOWN;
        switch (what) {
            case 0: return found.mark;
            case 1: return found.rows;
            case 2: return found.state;
            default: return OUTSIDE;
        }
    }

    public long line(int output, int i, int what) {
        Output of = outputAt(output);
        if (of == null || of.sort != LINES) return NO;
        return of.lines.has(i, what) ? of.lines.cell(i, what) : NO;
    }

    public long last(int output, int key, int what) {
        Output of = outputAt(output);
        if (of == null || of.sort != TABLE || !of.table.has(key)) return NO;
        switch (what) {
            case 0: return of.table.values[key];
            case 1: return of.table.parts[key];
            case 2: return of.table.places[key];
            default: return NO;
        }
    }

    public int reader(int output) {
        Output of = outputAt(output);
        if (of == null) return UNKNOWN;
        if (of.sort != LINES) return STATE;
        if (readers.size() >= MOST_READERS) return ROOM;
        readers.add(new Reader(of.lines));
        return readers.size() - 1;
    }

    public int read(int reader, int n) {
        Reader goer = readerAt(reader);
        if (goer == null) return UNKNOWN;
        if (n < 1 || n > MOST_TO_READ) return OUTSIDE;
        return goer.goOn(n);
    }

    public int seen(int reader, int key) {
        Reader goer = readerAt(reader);
        if (goer == null) return UNKNOWN;
        if (key == NONE) return goer.position;
        return isKey(key) ? goer.rowsOfKey[key] : OUTSIDE;
    }

    public int record(int i, int what) {
        if (i < 0 || i >= disk.count()) return UNKNOWN;
        return disk.has(i, what) ? disk.cell(i, what) : OUTSIDE;
    }

    public int told(int what) {
        switch (what) {
            case 0: return outputs.size();
            case 1: return disk.count();
            case 2: return theMark;
            case 3: return greatestMark();
            case 4: return ended ? 1 : 0;
            case 5: return down ? 1 : 0;
            case 6: return acts;
            case 7: return barriers.made;
            case 8: return readers.size();
            default: return OUTSIDE;
        }
    }

    public int audit() {
        boolean kept = true;
        boolean once = true;
        boolean whole = true;
        boolean latest = true;
        for (int o = 0; o < outputs.size(); o++) {
            Output output = outputs.get(o);
            kept = kept && output.showsOnlyMarksUpTo(theMark);
            once = once && output.showsNoLineTwice();
            whole = whole && output.showsPartsWhole();
            latest = latest && output.showsLatestOfKeys(disk);
        }
        return (kept ? 0 : 1) + (once ? 0 : 1) + (whole ? 0 : 1) + (latest ? 0 : 1);
    }

    private Output outputAt(int o) {
        return o < 0 || o >= outputs.size() ? null : outputs.get(o);
    }

    private Reader readerAt(int r) {
        return r < 0 || r >= readers.size() ? null : readers.get(r);
    }

    private static boolean isKey(int key) {
        return key >= 0 && key < KEYS;
    }

    private static boolean isMark(int mark) {
        return mark >= 0 && mark <= GREATEST_MARK;
    }

    /** NONE is below every mark, so that it counts only where there is no mark. */
    private int greatestMark() {
        return Math.max(barriers.greatest(), theMark);
    }

    /** Whether an act may be done. At the one at which power fails, what is in the house only is lost. */
    private boolean mayAct() {
        if (actsToFailure == 1) {
            actsToFailure = 0;
            down = true;
            emptyOpenParts();
            return false;
        }
        if (actsToFailure > 1) actsToFailure--;
        acts++;
        return true;
    }

    private void emptyOpenParts() {
        for (int o = 0; o < outputs.size(); o++) outputs.get(o).openRows = 0;
    }

    private boolean writeRecord(int kind, int output, int part, int keyOrMark, int value) {
        if (!mayAct()) return false;
        disk.add(kind, output, part, keyOrMark, value);
        return true;
    }

    private int refusalOfBarrier(int mark) {
        if (!isMark(mark) || mark <= greatestMark()) return OUTSIDE;
        if (down) return DOWN;
        if (ended) return STATE;
        if (barriers.made >= MOST_BARRIERS || partsAfterBarrier() > MOST_PARTS) return ROOM;
        return GRANTED;
    }

    private int partsAfterBarrier() {
        int count = 0;
        for (int o = 0; o < outputs.size(); o++) {
            Output output = outputs.get(o);
            count += output.parts.size() + (output.openRows > 0 ? 1 : 0);
        }
        return count;
    }

    /** How many rows were written, or DOWN. One at which power fails is counted as made, but its mark is not there. */
    private int makeBarrier(int mark) {
        barriers.made++;
        int written = 0;
        for (int o = 0; o < outputs.size(); o++) {
            Output output = outputs.get(o);
            int rows = output.openRows;
            if (rows > 0 && !closeOpenPart(output, mark)) return DOWN;
            written += rows;
        }
        barriers.add(mark);
        return written;
    }

    private boolean closeOpenPart(Output output, int mark) {
        Part part = new Part(output.parts.size(), disk.count());
        for (int i = 0; i < output.openRows && i < MOST_OPEN_ROWS; i++) {
            if (!writeRecord(ROW, output.number, part.number, output.openKeys[i], output.openValues[i])) return false;
            // Only a part with a record has its number; one without any must leave it to the next.
            if (i == 0) output.parts.add(part);
            part.rows++;
        }
        if (!writeRecord(PART_CLOSED, output.number, part.number, mark, NONE)) return false;
        part.mark = mark;
        part.state = CLOSED;
        output.openRows = 0;
        return true;
    }

    private boolean keepMark(int kind, int mark) {
        if (!writeRecord(kind, NONE, NONE, mark, NONE)) return false;
        theMark = mark;
        if (kind == END_KEPT) ended = true;
        return true;
    }

    /** How many rows came out there and were not dropped, or DOWN. */
    private int showAll() {
        int came = 0;
        for (int o = 0; o < outputs.size(); o++) {
            int rows = showOutput(outputs.get(o));
            if (rows == DOWN) return DOWN;
            came += rows;
        }
        return came;
    }

    private int showOutput(Output output) {
        int came = 0;
        for (int p = 0; p < output.parts.size(); p++) {
            Part part = output.parts.get(p);
            if (part.state != CLOSED || part.mark > theMark) continue;
            if (output.tryFails()) return came;
            int rows = showPart(output, part);
            if (rows == DOWN) return DOWN;
            came += rows;
        }
        return came;
    }

    private int showPart(Output output, Part part) {
        int came = 0;
        for (int place = 0; place < part.rows; place++) {
            if (!mayAct()) return DOWN;
            int key = disk.cell(part.firstRecord + place, Disk.KEY_OR_MARK);
            int value = disk.cell(part.firstRecord + place, Disk.VALUE);
            boolean taken = output.sort == LINES
                    ? output.lines.take(key, value, part.number, place)
                    : output.table.take(key, value, part.number, place);
            if (taken) came++;
        }
        if (!writeRecord(PART_SHOWN, output.number, part.number, NONE, NONE)) return DOWN;
        part.state = SHOWN;
        return came;
    }

    /** How many rows are gone, or DOWN. */
    private int giveUpFrom(int mark) {
        int gone = 0;
        for (int o = 0; o < outputs.size(); o++) {
            Output output = outputs.get(o);
            int rows = giveUpParts(output, mark);
            if (rows == DOWN) return DOWN;
            gone += rows + output.openRows;
            output.openRows = 0;
        }
        return gone;
    }

    private int giveUpParts(Output output, int mark) {
        int gone = 0;
        for (int p = 0; p < output.parts.size(); p++) {
            Part part = output.parts.get(p);
            if (part.state != CLOSED || part.mark < mark) continue;
            if (!writeRecord(PART_GONE, output.number, part.number, NONE, NONE)) return DOWN;
            part.state = GONE;
            gone += part.rows;
        }
        return gone;
    }

    /**
     * Rows of numbers, all of one width, that come one behind the other and stay. The numbers of a row stand in the order
     * in which they are asked for. There is room for few at first, since most runs are short.
     */
    private abstract static class Rows {
        private static final int ROWS_AT_FIRST = 32;

        private final int width;
        private int[] cells;
        private int count = 0;

        Rows(int width) {
            this.width = Math.max(1, width);
            cells = new int[this.width * ROWS_AT_FIRST];
        }

        int count() {
            return count;
        }

        boolean has(int i, int column) {
            return i >= 0 && i < count && column >= 0 && column < width;
        }

        int cell(int i, int column) {
            return has(i, column) ? cells[i * width + column] : NONE;
        }

        void set(int i, int column, int number) {
            if (has(i, column)) cells[i * width + column] = number;
        }

        /** The number of a new row. */
        int addRow() {
            int end = (count + 1) * width;
            if (end > cells.length) cells = Arrays.copyOf(cells, 2 * end);
            return count++;
        }
    }

    private static final class Disk extends Rows {
        private static final int KIND = 0, OUTPUT = 1, PART = 2, KEY_OR_MARK = 3, VALUE = 4;

        Disk() {
            super(5);
        }

        void add(int kind, int output, int part, int keyOrMark, int value) {
            int i = addRow();
            set(i, KIND, kind);
            set(i, OUTPUT, output);
            set(i, PART, part);
            set(i, KEY_OR_MARK, keyOrMark);
            set(i, VALUE, value);
        }
    }

    /** The marks of the barriers that there are; they rise, since a new one is above all others. */
    private static final class Barriers {
        private final int[] marks = new int[MOST_BARRIERS];
        private int count = 0;
        private int made = 0;

        void add(int mark) {
            if (count < marks.length) marks[count++] = mark;
        }

        boolean has(int mark) {
            for (int i = count - 1; i >= 0; i--) {
                if (marks[i] == mark) return true;
            }
            return false;
        }

        int greatest() {
            return count > 0 ? marks[count - 1] : NONE;
        }

        void dropFrom(int mark) {
            while (count > 0 && marks[count - 1] >= mark) count--;
        }
    }

    /** Rows that were written to the disk together: their records stand side by side. */
    private static final class Part {
        private final int number;
        private final int firstRecord;
        private int rows = 0;
        private int mark = NONE;
        private int state = UNCLOSED;
        /** Used by an audit alone: a bit for each place that it met, and the place that is to come next. */
        private int placesMet = 0;
        private int nextPlace = 0;

        Part(int number, int firstRecord) {
            this.number = number;
            this.firstRecord = firstRecord;
        }
    }

    private static final class Output {
        private final int number;
        private final int sort;
        private final int[] openKeys = new int[MOST_OPEN_ROWS];
        private final int[] openValues = new int[MOST_OPEN_ROWS];
        private int openRows = 0;
        private final ArrayList<Part> parts = new ArrayList<Part>();
        private int triesMade = 0;
        private int triesToFail = 0;
        /** One of these two stays empty, by the sort. */
        private final Lines lines = new Lines();
        private final Table table = new Table();

        Output(int number, int sort) {
            this.number = number;
            this.sort = sort;
        }

        boolean takeRow(int key, int value) {
            if (openRows >= MOST_OPEN_ROWS) return false;
            openKeys[openRows] = key;
            openValues[openRows] = value;
            openRows++;
            return true;
        }

        Part partAt(int p) {
            return p < 0 || p >= parts.size() ? null : parts.get(p);
        }

        int waitingParts() {
            int waiting = 0;
            for (int p = 0; p < parts.size(); p++) {
                if (parts.get(p).state == CLOSED) waiting++;
            }
            return waiting;
        }

        boolean tryFails() {
            triesMade++;
            if (triesToFail == 0) return false;
            triesToFail--;
            return true;
        }

        boolean showsOnlyMarksUpTo(int mark) {
            for (int i = 0; i < lines.count(); i++) {
                if (!isClosedUpTo(lines.cell(i, Lines.PART), mark)) return false;
            }
            for (int key = 0; key < KEYS; key++) {
                if (table.has(key) && !isClosedUpTo(table.parts[key], mark)) return false;
            }
            return true;
        }

        private boolean isClosedUpTo(int p, int mark) {
            Part part = partAt(p);
            return part != null && part.state != UNCLOSED && part.mark <= mark;
        }

        boolean showsNoLineTwice() {
            for (int p = 0; p < parts.size(); p++) parts.get(p).placesMet = 0;
            for (int i = 0; i < lines.count(); i++) {
                Part part = partAt(lines.cell(i, Lines.PART));
                int bit = 1 << lines.cell(i, Lines.PLACE);
                if (part == null || (part.placesMet & bit) != 0) return false;
                part.placesMet |= bit;
            }
            return true;
        }

        boolean showsPartsWhole() {
            if (sort != LINES) return true;
            for (int p = 0; p < parts.size(); p++) parts.get(p).nextPlace = 0;
            for (int i = 0; i < lines.count(); i++) {
                Part part = partAt(lines.cell(i, Lines.PART));
                if (part != null && part.nextPlace == lines.cell(i, Lines.PLACE)) part.nextPlace++;
            }
            for (int p = 0; p < parts.size(); p++) {
                Part part = parts.get(p);
                if (part.state == SHOWN && part.nextPlace != part.rows) return false;
            }
            return true;
        }

        boolean showsLatestOfKeys(Disk disk) {
            if (sort != TABLE) return true;
            for (int p = 0; p < parts.size(); p++) {
                Part part = parts.get(p);
                for (int i = 0; part.state == SHOWN && i < part.rows; i++) {
                    int key = disk.cell(part.firstRecord + i, Disk.KEY_OR_MARK);
                    if (!table.has(key) || table.parts[key] < p) return false;
                }
            }
            return true;
        }
    }

    /** The rows of an output as readers see them. */
    private static final class Lines extends Rows {
        private static final int KEY = 0, VALUE = 1, PART = 2, PLACE = 3;

        Lines() {
            super(4);
        }

        boolean take(int key, int value, int part, int place) {
            if (isThere(part, place)) return false;
            int i = addRow();
            set(i, KEY, key);
            set(i, VALUE, value);
            set(i, PART, part);
            set(i, PLACE, place);
            return true;
        }

        /** Parts come in the order of their numbers, so that ahead of a row of a lesser part there is nothing to find. */
        private boolean isThere(int part, int place) {
            for (int i = count() - 1; i >= 0; i--) {
                int partThere = cell(i, PART);
                if (partThere == part && cell(i, PLACE) == place) return true;
                if (partThere < part) return false;
            }
            return false;
        }
    }

    /** The last value of each key as readers see it. NONE is below every part, so that any row goes before no row. */
    private static final class Table {
        private final int[] values = new int[KEYS];
        private final int[] parts = new int[KEYS];
        private final int[] places = new int[KEYS];
        private int count = 0;

        Table() {
            Arrays.fill(parts, NONE);
        }

        boolean has(int key) {
            return isKey(key) && parts[key] != NONE;
        }

        boolean take(int key, int value, int part, int place) {
            if (!isKey(key)) return false;
            boolean newer = part > parts[key] || (part == parts[key] && place > places[key]);
            if (!newer) return false;
            if (!has(key)) count++;
            values[key] = value;
            parts[key] = part;
            places[key] = place;
            return true;
        }
    }

    private static final class Reader {
        private final Lines lines;
        private final int[] rowsOfKey = new int[KEYS];
        private int position = 0;

        Reader(Lines lines) {
            this.lines = lines;
        }

        int goOn(int n) {
            int went = 0;
            while (went < n && position < lines.count()) {
                int key = lines.cell(position, Lines.KEY);
                if (isKey(key)) rowsOfKey[key]++;
                position++;
                went++;
            }
            return went;
        }
    }
}
