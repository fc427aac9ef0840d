import java.util.ArrayList;
import java.util.List;
import java.util.TreeSet;

/**
 * The document told again as slowly and as plainly as can be: what a part is, the mark and the end are looked up in the
 * records each time, and power that fails is an exception. RandomRunsTest holds the class against it.
 */
final class NaiveOutputs {
    private static final int UNKNOWN = -1, OUTSIDE = -2, STATE = -3, ROOM = -4, DOWN = -5, NONE = -6;
    private static final long NO = Long.MIN_VALUE;

    private static final class PowerFailed extends Exception {
        private static final long serialVersionUID = 1L;
    }

    private record Row(int key, int value, int part, int place) {
    }

    private record Rec(int kind, int output, int part, int third, int fourth) {
    }

    private final List<Integer> sorts = new ArrayList<>();
    private final List<List<int[]>> openParts = new ArrayList<>();
    private final List<List<Row>> out = new ArrayList<>();
    private final List<int[]> tries = new ArrayList<>();
    private final List<Rec> records = new ArrayList<>();
    private final TreeSet<Integer> barriers = new TreeSet<>();
    private final List<int[]> readers = new ArrayList<>();
    private int made, acts, failAt;
    private boolean down;

    int output(int sort) {
        if (sort < 0 || sort > 1) return OUTSIDE;
        if (down) return DOWN;
        if (made > 0) return STATE;
        if (sorts.size() == 3) return ROOM;
        sorts.add(sort);
        openParts.add(new ArrayList<>());
        out.add(new ArrayList<>());
        tries.add(new int[2]);
        return sorts.size() - 1;
    }

    int write(int output, int key, int value) {
        if (!known(output)) return UNKNOWN;
        if (key < 0 || key > 9) return OUTSIDE;
        if (down) return DOWN;
        if (ended()) return STATE;
        if (openParts.get(output).size() == 20) return ROOM;
        openParts.get(output).add(new int[] {key, value});
        return openParts.get(output).size();
    }

    int barrier(int mark) {
        int no = noBarrier(mark);
        if (no != 0) return no;
        try {
            return makeBarrier(mark);
        } catch (PowerFailed e) {
            return DOWN;
        }
    }

    int keep(int mark) {
        if (!barriers.contains(mark) || mark <= theMark()) return OUTSIDE;
        if (down) return DOWN;
        try {
            put(2, NONE, NONE, mark, NONE);
            return showAll();
        } catch (PowerFailed e) {
            return DOWN;
        }
    }

    int show() {
        if (down) return DOWN;
        try {
            return showAll();
        } catch (PowerFailed e) {
            return DOWN;
        }
    }

    int give(int mark) {
        if (mark < 0 || mark > 1_000_000 || mark <= theMark()) return OUTSIDE;
        if (down) return DOWN;
        try {
            int rows = giveUp(mark);
            barriers.tailSet(mark).clear();
            return rows;
        } catch (PowerFailed e) {
            return DOWN;
        }
    }

    int end(int mark) {
        int no = noBarrier(mark);
        if (no != 0) return no;
        try {
            makeBarrier(mark);
            put(5, NONE, NONE, mark, NONE);
            return showAll();
        } catch (PowerFailed e) {
            return DOWN;
        }
    }

    int fails(int output, int n) {
        if (!known(output)) return UNKNOWN;
        if (n < 0 || n > 100) return OUTSIDE;
        int before = tries.get(output)[1];
        tries.get(output)[1] = n;
        return before;
    }

    int power(int k) {
        if (k != NONE && (k < 1 || k > 5000)) return OUTSIDE;
        if (down) return DOWN;
        failAt = k == NONE ? 0 : acts + k;
        return 1;
    }

    int open() {
        down = false;
        failAt = 0;
        openParts.forEach(List::clear);
        barriers.removeIf(mark -> mark > theMark());
        int before = countKinds(3, 4);
        try {
            giveUp(theMark() + 1);
            showAll();
        } catch (PowerFailed e) {
            throw new IllegalStateException("power fails while it is opened", e);
        }
        return countKinds(3, 4) - before;
    }

    int about(int output, int what) {
        if (!known(output)) return UNKNOWN;
        switch (what) {
            case 0: return sorts.get(output);
            case 1: return openParts.get(output).size();
            case 2: return numbers(output);
            case 3: return out.get(output).size();
            case 4: return tries.get(output)[0];
            case 5: return tries.get(output)[1];
            case 6:
                int wait = 0;
                for (int p = 0; p < numbers(output); p++) wait += state(output, p) == 1 ? 1 : 0;
                return wait;
            default: return OUTSIDE;
        }
    }

    int part(int output, int p, int what) {
        if (!known(output) || p < 0 || p >= numbers(output)) return UNKNOWN;
        switch (what) {
            case 0: return markOf(output, p);
            case 1: return rowsOf(output, p).size();
            case 2: return state(output, p);
            default: return OUTSIDE;
        }
    }

    long line(int output, int i, int what) {
        if (!known(output) || sorts.get(output) != 0 || i < 0 || i >= out.get(output).size()) return NO;
        Row row = out.get(output).get(i);
        switch (what) {
            case 0: return row.key();
            case 1: return row.value();
            case 2: return row.part();
            case 3: return row.place();
            default: return NO;
        }
    }

    long last(int output, int key, int what) {
        if (!known(output) || sorts.get(output) != 1) return NO;
        for (Row row : out.get(output)) {
            if (row.key() != key) continue;
            switch (what) {
                case 0: return row.value();
                case 1: return row.part();
                case 2: return row.place();
                default: return NO;
            }
        }
        return NO;
    }

    int reader(int output) {
        if (!known(output)) return UNKNOWN;
        if (sorts.get(output) == 1) return STATE;
        if (readers.size() == 4) return ROOM;
        readers.add(new int[] {output, 0});
        return readers.size() - 1;
    }

    int read(int reader, int n) {
        if (reader < 0 || reader >= readers.size()) return UNKNOWN;
        if (n < 1 || n > 100) return OUTSIDE;
        int[] r = readers.get(reader);
        int more = Math.min(n, out.get(r[0]).size() - r[1]);
        r[1] += more;
        return more;
    }

    int seen(int reader, int key) {
        if (reader < 0 || reader >= readers.size()) return UNKNOWN;
        if (key != NONE && (key < 0 || key > 9)) return OUTSIDE;
        int[] r = readers.get(reader);
        return (int) out.get(r[0]).stream().limit(r[1]).filter(row -> key == NONE || row.key() == key).count();
    }

    int record(int i, int what) {
        if (i < 0 || i >= records.size()) return UNKNOWN;
        Rec rec = records.get(i);
        switch (what) {
            case 0: return rec.kind();
            case 1: return rec.output();
            case 2: return rec.part();
            case 3: return rec.third();
            case 4: return rec.fourth();
            default: return OUTSIDE;
        }
    }

    int told(int what) {
        switch (what) {
            case 0: return sorts.size();
            case 1: return records.size();
            case 2: return theMark();
            case 3: return greatest();
            case 4: return ended() ? 1 : 0;
            case 5: return down ? 1 : 0;
            case 6: return acts;
            case 7: return made;
            case 8: return readers.size();
            default: return OUTSIDE;
        }
    }

    int audit() {
        return 0;
    }

    private boolean known(int output) {
        return output >= 0 && output < sorts.size();
    }

    private int countKinds(int a, int b) {
        return (int) records.stream().filter(r -> r.kind() == a || r.kind() == b).count();
    }

    private boolean ended() {
        return countKinds(5, 5) > 0;
    }

    private int theMark() {
        return records.stream().filter(r -> r.kind() == 2 || r.kind() == 5).mapToInt(Rec::third).max().orElse(NONE);
    }

    private int greatest() {
        return barriers.isEmpty() ? theMark() : Math.max(barriers.last(), theMark());
    }

    private int numbers(int output) {
        return records.stream().filter(r -> r.output() == output).mapToInt(r -> r.part() + 1).max().orElse(0);
    }

    private List<Rec> rowsOf(int output, int p) {
        return records.stream().filter(r -> r.kind() == 0 && r.output() == output && r.part() == p).toList();
    }

    private int markOf(int output, int p) {
        return records.stream().filter(r -> r.kind() == 1 && r.output() == output && r.part() == p)
                .mapToInt(Rec::third).findFirst().orElse(NONE);
    }

    private int state(int output, int p) {
        int state = 0;
        for (Rec r : records) {
            if (r.output() != output || r.part() != p || r.kind() == 0) continue;
            state = r.kind() == 1 ? 1 : r.kind() == 3 ? 2 : 3;
        }
        return state;
    }

    private void act() throws PowerFailed {
        if (failAt == acts + 1) {
            down = true;
            failAt = 0;
            openParts.forEach(List::clear);
            throw new PowerFailed();
        }
        acts++;
    }

    private void put(int kind, int output, int part, int third, int fourth) throws PowerFailed {
        act();
        records.add(new Rec(kind, output, part, third, fourth));
    }

    private int noBarrier(int mark) {
        if (mark < 0 || mark > 1_000_000 || mark <= greatest()) return OUTSIDE;
        if (down) return DOWN;
        if (ended()) return STATE;
        int parts = 0;
        for (int o = 0; o < sorts.size(); o++) parts += numbers(o) + (openParts.get(o).isEmpty() ? 0 : 1);
        return made >= 200 || parts > 100 ? ROOM : 0;
    }

    private int makeBarrier(int mark) throws PowerFailed {
        made++;
        int written = 0;
        for (int o = 0; o < sorts.size(); o++) {
            if (openParts.get(o).isEmpty()) continue;
            int number = numbers(o);
            for (int[] row : List.copyOf(openParts.get(o))) {
                put(0, o, number, row[0], row[1]);
                written++;
            }
            put(1, o, number, mark, NONE);
            openParts.get(o).clear();
        }
        barriers.add(mark);
        return written;
    }

    private int showAll() throws PowerFailed {
        int came = 0;
        for (int o = 0; o < sorts.size(); o++) {
            for (int p = 0; p < numbers(o); p++) {
                if (state(o, p) != 1 || markOf(o, p) > theMark()) continue;
                tries.get(o)[0]++;
                if (tries.get(o)[1] > 0) {
                    tries.get(o)[1]--;
                    break;
                }
                List<Rec> rows = rowsOf(o, p);
                for (int place = 0; place < rows.size(); place++) {
                    act();
                    came += comes(o, new Row(rows.get(place).third(), rows.get(place).fourth(), p, place)) ? 1 : 0;
                }
                put(3, o, p, NONE, NONE);
            }
        }
        return came;
    }

    private boolean comes(int o, Row row) {
        List<Row> there = out.get(o);
        for (Row old : there) {
            if (sorts.get(o) == 0 && old.part() == row.part() && old.place() == row.place()) return false;
            if (sorts.get(o) == 1 && old.key() == row.key()) {
                boolean lesser = old.part() < row.part() || old.part() == row.part() && old.place() < row.place();
                if (!lesser) return false;
                there.remove(old);
                break;
            }
        }
        there.add(row);
        return true;
    }

    private int giveUp(int mark) throws PowerFailed {
        int gone = 0;
        for (int o = 0; o < sorts.size(); o++) {
            for (int p = 0; p < numbers(o); p++) {
                if (state(o, p) == 0 || state(o, p) == 3 || markOf(o, p) < mark) continue;
                put(4, o, p, NONE, NONE);
                gone += rowsOf(o, p).size();
            }
            gone += openParts.get(o).size();
            openParts.get(o).clear();
        }
        return gone;
    }
}
