import java.util.Random;

/** Runs of up to 512 calls, drawn from fixed seeds, on the class and on the naive telling: every answer must agree. */
public final class RandomRunsTest {
    private static final int RUNS = 600, CALLS = 512;
    private static final int[] ODD = {Integer.MIN_VALUE, -7, -6, -2, -1, 0, 1, 3, 9, 10, 20, 100, 101, 5000, 5001,
        1_000_000, 1_000_001, Integer.MAX_VALUE};
    private static final int[] REACHED = new int[7];

    private final Random random;
    private final TwoStepOutputs real = new TwoStepOutputs();
    private final NaiveOutputs naive = new NaiveOutputs();
    private final String run;
    private final boolean calm;

    private RandomRunsTest(int seed) {
        random = new Random(seed);
        run = "seed " + seed + ": ";
        calm = seed % 3 == 0;
    }

    public static void main(String[] args) {
        for (int seed = 0; seed < RUNS; seed++) new RandomRunsTest(seed).go();
        for (int no = 1; no < REACHED.length; no++) Due.holds("some call answered " + -no, REACHED[no] > 0);
        Due.end("RandomRunsTest");
    }

    private void go() {
        int outputs = 1 + random.nextInt(3);
        for (int o = 0; o < outputs; o++) same("output", real.output(o % 2), naive.output(o % 2));
        for (int call = outputs; call < CALLS; call++) {
            if (random.nextInt(100) < (calm ? 90 : 75)) change(); else ask();
        }
        compareAll();
    }

    private void same(String call, long got, long want) {
        if (got < 0 && got >= -6) REACHED[(int) -got]++;
        Due.is(run + call, got, want);
    }

    private int pick(int below) {
        return random.nextInt(40) == 0 ? ODD[random.nextInt(ODD.length)] : random.nextInt(below);
    }

    private int anOutput() {
        return pick(3);
    }

    private int aMark() {
        int near = naive.told(3) + random.nextInt(5) - 1;
        return random.nextInt(30) == 0 ? ODD[random.nextInt(ODD.length)] : near;
    }

    private void change() {
        int kind = random.nextInt(100);
        int a = anOutput();
        int mark = aMark();
        if (kind < 45) {
            int key = pick(10);
            int value = random.nextInt();
            same("write", real.write(a, key, value), naive.write(a, key, value));
        } else if (kind < 60) {
            same("barrier", real.barrier(mark), naive.barrier(mark));
        } else if (kind < 72) {
            int kept = mark - random.nextInt(3);
            same("keep", real.keep(kept), naive.keep(kept));
        } else if (kind < 76) {
            same("show", real.show(), naive.show());
        } else if (kind < 80) {
            int from = mark - random.nextInt(4);
            same("give", real.give(from), naive.give(from));
        } else if (kind < 84) {
            int n = pick(4);
            same("fails", real.fails(a, n), naive.fails(a, n));
        } else if (kind < 90) {
            int k = random.nextInt(6) == 0 ? -6 : calm ? 5000 : pick(25);
            same("power", real.power(k), naive.power(k));
        } else if (kind < 95) {
            if (naive.told(5) == 1 || random.nextInt(4) == 0) same("open", real.open(), naive.open());
        } else if (kind < 97) {
            same("reader", real.reader(a), naive.reader(a));
        } else if (kind < 99) {
            int sort = pick(2);
            same("output", real.output(sort), naive.output(sort));
        } else if (random.nextInt(6) == 0) {
            same("end", real.end(mark), naive.end(mark));
        }
    }

    private void ask() {
        int a = anOutput();
        int what = pick(9);
        int i = pick(Math.max(1, naive.told(1) + 1));
        switch (random.nextInt(9)) {
            case 0: same("about", real.about(a, what), naive.about(a, what)); break;
            case 1: same("part", real.part(a, i % 12, what % 4), naive.part(a, i % 12, what % 4)); break;
            case 2: same("line", real.line(a, i, what), naive.line(a, i, what)); break;
            case 3: same("last", real.last(a, i % 11, what), naive.last(a, i % 11, what)); break;
            case 4: same("read", real.read(a, i), naive.read(a, i)); break;
            case 5: same("seen", real.seen(a, what), naive.seen(a, what)); break;
            case 6: same("record", real.record(i, what), naive.record(i, what)); break;
            case 7: same("told", real.told(what), naive.told(what)); break;
            default: same("audit", real.audit(), naive.audit()); break;
        }
        if (random.nextInt(20) == 0) compareAll();
    }

    private void compareAll() {
        for (int what = -1; what < 10; what++) same("told(" + what + ")", real.told(what), naive.told(what));
        for (int o = -1; o < 4; o++) compareOutput(o);
        for (int r = -1; r < 5; r++) {
            for (int key = -7; key < 11; key++) same("seen", real.seen(r, key), naive.seen(r, key));
        }
        for (int i = -1; i <= naive.told(1); i++) {
            for (int what = -1; what < 6; what++) same("record", real.record(i, what), naive.record(i, what));
        }
        same("audit", real.audit(), 0);
    }

    private void compareOutput(int o) {
        for (int what = -1; what < 8; what++) same("about", real.about(o, what), naive.about(o, what));
        for (int p = -1; p <= naive.about(o, 2); p++) {
            for (int what = -1; what < 4; what++) same("part", real.part(o, p, what), naive.part(o, p, what));
        }
        for (int i = -1; i <= naive.about(o, 3); i++) {
            for (int what = -1; what < 5; what++) same("line", real.line(o, i, what), naive.line(o, i, what));
        }
        for (int key = -1; key < 11; key++) {
            for (int what = -1; what < 4; what++) same("last", real.last(o, key, what), naive.last(o, key, what));
        }
    }
}
