import java.util.Random;

/** Runs of calls, right and wrong ones, answered by the class and by the slow model alike. */
public final class RandomRunsTest {
    private static final int RUNS = 400;

    private final Check check = new Check();
    private final Random random = new Random(20261116);
    private KinForms x;
    private Model m;
    private int run;
    private int largest;

    public static void main(String[] args) {
        new RandomRunsTest().runAll();
    }

    private void runAll() {
        for (run = 0; run < RUNS; run++) {
            x = new KinForms();
            m = new Model();
            // Small forms have few kin, large ones more than are told.
            largest = new int[] {3, 5, 8, 12}[run % 4];
            int calls = 30 + random.nextInt(200);
            for (int i = 0; i < calls; i++) {
                callForms();
                callNeighbours();
            }
        }
        check.end();
    }

    private void due(String call, long want, long got) {
        check.due("run " + run + ": " + call, want, got);
    }

    private int from(int low, int high) {
        return low + random.nextInt(high - low + 1);
    }

    /** Mostly inside, now and then outside, seldom far outside. */
    private int near(int low, int high) {
        int kind = random.nextInt(60);
        if (kind == 0) {
            return random.nextBoolean() ? Integer.MIN_VALUE : Integer.MAX_VALUE;
        }
        if (kind < 4) {
            return random.nextBoolean() ? low - 1 : high + 1;
        }
        return from(low, high);
    }

    private int someForm() {
        return near(0, Math.max(0, m.count() - 1));
    }

    private int[] someNumbers() {
        int side = largest;
        int[] q = new int[6];
        for (int i = 0; i < 6; i++) {
            q[i] = i < 3 ? near(1, side) : near(-side, side);
        }
        if (random.nextInt(30) == 0) {
            q[random.nextInt(6)] = near(-13, 13);
        }
        return q;
    }

    private void callForms() {
        int k = someForm();
        int j = someForm();
        switch (random.nextInt(11)) {
            case 0 -> callForm();
            case 1 -> callSet(k);
            case 2 -> {
                if (random.nextInt(4) == 0) {
                    due("drop()", m.drop(), x.drop());
                }
            }
            case 3 -> {
                int what = near(0, 13);
                due("told(" + k + ", " + what + ")", m.told(k, what), x.told(k, what));
            }
            case 4 -> {
                int a = near(-1000, 1000);
                int b = near(-1000, 1000);
                int c = near(-1000, 1000);
                due("value(" + k + ", " + a + ", " + b + ", " + c + ")", m.value(k, a, b, c), x.value(k, a, b, c));
            }
            case 5 -> {
                int n = near(0, 100);
                due("taken(" + k + ", " + n + ")", m.taken(k, n), x.taken(k, n));
            }
            case 6 -> due("least(" + k + ")", m.least(k), x.least(k));
            case 7 -> due("same(" + k + ", " + j + ")", m.same(k, j), x.same(k, j));
            case 8 -> {
                int place = near(0, 8);
                due("table(" + k + ", " + place + ")", m.table(k, place), x.table(k, place));
            }
            case 9 -> callTurns(k, j);
            default -> due("count()", m.count(), x.count());
        }
    }

    private void callForm() {
        int[] q = someNumbers();
        String call = "form" + java.util.Arrays.toString(q);
        due(call, m.form(q[0], q[1], q[2], q[3], q[4], q[5]), x.form(q[0], q[1], q[2], q[3], q[4], q[5]));
    }

    private void callSet(int k) {
        int[] q = someNumbers();
        String call = "set " + k + java.util.Arrays.toString(q);
        due(call, m.set(k, q[0], q[1], q[2], q[3], q[4], q[5]), x.set(k, q[0], q[1], q[2], q[3], q[4], q[5]));
    }

    private void callTurns(int k, int j) {
        int[] r = new int[9];
        for (int i = 0; i < 9; i++) {
            r[i] = i % 4 == 0 ? from(-1, 1) : random.nextInt(3) == 0 ? from(-1, 1) : 0;
        }
        if (random.nextInt(3) == 0) {
            r[random.nextInt(9)] = near(-20, 20);
        }
        int other = random.nextBoolean() ? k : j;
        String call = "turns " + k + " " + other + java.util.Arrays.toString(r);
        due(call, m.turns(k, other, r), x.turns(k, other, r[0], r[1], r[2], r[3], r[4], r[5], r[6], r[7], r[8]));
    }

    private void callNeighbours() {
        int k = someForm();
        int j = someForm();
        int i = near(0, 7);
        int o = near(0, 7);
        int n = near(0, 100);
        int what = near(0, 6);
        int half = near(0, 1);
        switch (random.nextInt(10)) {
            case 0 -> {
                if (random.nextInt(3) == 0) {
                    int p = near(2, 8);
                    due("prime(" + p + ")", m.prime(p), x.prime(p));
                }
            }
            case 1 -> due("line(" + k + ", " + i + ", " + what + ")", m.line(k, i, what), x.line(k, i, what));
            case 2, 3 -> due("neighbour(" + k + ", " + i + ", " + what + ")", m.neighbour(k, i, what), x.neighbour(k, i, what));
            case 4 -> due("kin(" + k + ")", m.kin(k), x.kin(k));
            case 5 -> due("kind(" + k + ", " + i + ", " + what + ")", m.kind(k, i, what), x.kind(k, i, what));
            case 6 -> due("among(" + k + ", " + j + ")", m.among(k, j), x.among(k, j));
            case 7 -> due("ways(" + k + ", " + i + ", " + o + ")", m.ways(k, i, o), x.ways(k, i, o));
            case 8 -> due("weight(" + k + ", " + half + ")", m.weight(k, half), x.weight(k, half));
            default -> due("mean(" + k + ", " + n + ", " + half + ")", m.mean(k, n, half), x.mean(k, n, half));
        }
    }
}
