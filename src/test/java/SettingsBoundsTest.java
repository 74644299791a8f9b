import java.util.Arrays;

/** The bounds in '1 FORMS' and '2 NEIGHBOURS': a test for each sentence, named after it. */
public final class SettingsBoundsTest {
    private static final Check CHECK = new Check();

    public static void main(String[] args) throws IllegalAccessException {
        CHECK.sentences(SettingsBoundsTest.class);
        CHECK.end();
    }

    private static Run with(int... numbers) {
        return new Run(CHECK).due(0, "form", numbers);
    }

    private static Run withBy(int p, int... numbers) {
        return with(numbers).due(3, "prime", p);
    }

    // ---- 1 FORMS

    /** Numbers that are a FORM, made and set. */
    private static void isForm(int... numbers) {
        Run run = with(numbers);
        run.due(1, "form", Known.CUBE).due(1, "set", Known.join(1, numbers)).due(1, "same", 0, 1);
        for (int what = 0; what < 6; what++) {
            run.due(numbers[what], "told", 0, what).due(numbers[what], "told", 1, what);
        }
    }

    private static void isNoForm(int... numbers) {
        new Run(CHECK).due(KinForms.OUTSIDE, "form", numbers).due(0, "count")
            .due(0, "form", Known.FOUR).due(KinForms.OUTSIDE, "form", numbers).due(1, "count")
            .due(KinForms.OUTSIDE, "set", Known.join(0, numbers)).due(77, "told", 0, 6);
    }

    private static void forms_12AtMost() {
        Run run = new Run(CHECK);
        for (int k = 0; k < 12; k++) {
            run.due(k, "form", Known.CUBE).due(k + 1, "count");
        }
        run.due(KinForms.FULL, "form", Known.CUBE).due(KinForms.FULL, "form", Known.FOUR).due(12, "count");
    }

    private static void forms_abcAre1To12() {
        int[] wide = {12, 12, 12, 0, 0, 0};
        for (int place = 0; place < 3; place++) {
            for (int in : new int[] {1, 2, 11, 12}) {
                isForm(Known.with(Known.CUBE, place, in));
                isForm(Known.with(wide, place, in));
            }
            for (int out : new int[] {0, -1, -12, 13, 14, Known.MIN, Known.MAX}) {
                isNoForm(Known.with(Known.CUBE, place, out));
                isNoForm(Known.with(wide, place, out));
            }
        }
        // Two numbers below 0 leave 4 a b - f f and DISC above 0.
        isNoForm(-1, -1, 1, 0, 0, 0);
        isNoForm(-12, -12, 12, 0, 0, 0);
    }

    private static void forms_defAreMinus12To12() {
        int[] wide = {12, 12, 12, 0, 0, 0};
        for (int place = 3; place < 6; place++) {
            for (int in : new int[] {-12, -11, 0, 11, 12}) {
                isForm(Known.with(wide, place, in));
            }
            for (int out : new int[] {-13, 13, -14, 14, Known.MIN, Known.MAX}) {
                isNoForm(Known.with(wide, place, out));
            }
        }
        isForm(12, 12, 12, 12, 12, 12);
        isForm(12, 12, 12, -12, -12, 12);
        isForm(12, 12, 12, -12, 12, -12);
        isForm(12, 12, 12, 12, -12, -12);
    }

    private static void forms_numbersWhoseProductsWrapAround() {
        isNoForm(65536, 65536, 65536, 0, 0, 0);
        isNoForm(1, 1, 1, 65536, 65536, 65536);
        isNoForm(32769, 32769, 1, 0, 0, 65536);
        isNoForm(Known.MIN, Known.MIN, Known.MIN, Known.MIN, Known.MIN, Known.MIN);
        isNoForm(Known.MAX, Known.MAX, Known.MAX, Known.MAX, Known.MAX, Known.MAX);
        isNoForm(Known.MIN + 1, 1, 1, 0, 0, 0);
        isNoForm(1, 1, 1, Known.MIN + 1, Known.MIN + 1, Known.MIN + 1);
    }

    private static void forms_4abLessFFIsAbove0() {
        // It is 3, the least above 0 that there is with DISC above 0.
        isForm(1, 1, 1, 0, 0, 1);
        isForm(1, 1, 1, 0, 0, -1);
        isForm(3, 7, 1, 0, 0, 9);
        isForm(3, 7, 1, 0, 0, -9);
        // 0.
        isNoForm(1, 1, 12, 0, 0, 2);
        isNoForm(1, 1, 12, 0, 0, -2);
        isNoForm(3, 12, 12, 0, 0, 12);
        // -1 and less, with DISC above 0: 3, 4 and 54.
        isNoForm(1, 2, 1, 6, 4, 3);
        isNoForm(1, 1, 1, 3, -3, -3);
        isNoForm(1, 1, 1, 5, 5, 5);
    }

    private static void forms_DISCIsAbove0() {
        // 2 is the least that there is.
        isForm(Known.PACKED);
        isForm(3, 10, 11, -2, -7, -8);
        // 0.
        isNoForm(1, 1, 1, 2, 0, 0);
        isNoForm(1, 1, 1, 0, -2, 0);
        isNoForm(2, 2, 2, -2, -2, -2);
        isNoForm(12, 12, 12, -12, -12, -12);
        // -1 and far below.
        isNoForm(1, 1, 1, 2, 1, 0);
        isNoForm(1, 12, 1, 12, 12, 0);
        with(Known.PACKED).due(2, "told", 0, 6).due(1, "set", 0, 12, 12, 12, 0, 0, 0).due(6912, "told", 0, 6);
    }

    private static void forms_TABLE_determinantOf1OrMinus1() {
        with(Known.CUBE).due(1, "form", 4, 1, 1, 0, 0, 0)
            .due(1, "turns", 0, 0, 0, 1, 0, 0, 0, 1, 1, 0, 0).due(1, "turns", 0, 0, 0, 1, 0, 1, 0, 0, 0, 0, 1)
            // 2, -2 and 0: the first two lead to FORM 1 and are no TABLES.
            .due(0, "turns", 0, 1, 2, 0, 0, 0, 1, 0, 0, 0, 1).due(0, "turns", 0, 1, -2, 0, 0, 0, 1, 0, 0, 0, 1)
            .due(0, "turns", 0, 0, 1, 0, 0, 1, 0, 0, 0, 0, 1).due(0, "turns", 0, 0, 0, 0, 0, 0, 0, 0, 0, 0, 0);
    }

    private static void forms_LEASTFORM_leastAThenBThenCThenDThenEThenF() {
        // Each is turned into others that are less in a later number and more in an earlier one.
        leastIs(new int[] {12, 1, 12, 5, 12, 6}, 1, 3, 6, -3, -1, 0);
        leastIs(new int[] {3, 2, 1, 0, 0, 0}, 1, 2, 3, 0, 0, 0);
        leastIs(Known.PACKED, 1, 1, 1, -1, -1, 0);
        leastIs(new int[] {2, 3, 5, 1, 1, 1}, 2, 3, 5, -1, -1, 1);
        leastIs(new int[] {12, 12, 12, 12, 12, 12}, 12, 12, 12, -12, -12, 0);
        leastIs(new int[] {12, 12, 12, 11, -11, 11}, 3, 12, 12, -11, -2, -2);
    }

    private static void leastIs(int[] numbers, int... least) {
        Run run = with(numbers);
        for (int i = 0; i < 6; i++) {
            run.due(least[i], "told", 0, 7 + i);
        }
        noSmallTableLeadsBelow(numbers, least);
    }

    /** By the words alone: of all TABLES with -1, 0 and 1 none turns the LEAST FORM, nor the FORM, into less. */
    private static void noSmallTableLeadsBelow(int[] numbers, int[] least) {
        for (int code = 0; code < 19683; code++) {
            long[][] rows = new long[3][3];
            int rest = code;
            for (int place = 0; place < 9; place++) {
                rows[place / 3][place % 3] = rest % 3 - 1;
                rest /= 3;
            }
            if (Math.abs(Model.det(rows[0], rows[1], rows[2])) == 1) {
                for (int[] from : new int[][] {numbers, least}) {
                    long[] turned = Model.turned(Model.longs(from), rows[0], rows[1], rows[2]);
                    CHECK.holds("nothing below " + Arrays.toString(least), Arrays.compare(turned, Model.longs(least)) >= 0);
                }
            }
        }
    }

    // ---- 2 NEIGHBOURS

    private static void neighbours_PIs3Or5Or7() {
        for (int p = -8; p <= 20; p++) {
            boolean taken = p == 3 || p == 5 || p == 7;
            new Run(CHECK).due(taken ? 3 : KinForms.OUTSIDE, "prime", p);
        }
        new Run(CHECK).due(KinForms.OUTSIDE, "prime", Known.MIN).due(KinForms.OUTSIDE, "prime", Known.MAX);
    }

    /** A FORM with the DISC told that has NEIGHBOURS by P or has none. */
    private static void discBy(int p, boolean crossed, int disc, int... numbers) {
        Run run = withBy(p, numbers).due(disc, "told", 0, 6);
        for (String call : new String[] {"line", "neighbour"}) {
            long first = run.ask(call, 0, 0, 0);
            long last = run.ask(call, 0, p, 0);
            CHECK.holds(call + " by " + p + " of DISC " + disc, crossed ? first >= 0 && last >= 0 : first == KinForms.NOT && last == KinForms.NOT);
        }
        long kin = run.ask("kin", 0);
        CHECK.holds("kin by " + p + " of DISC " + disc, crossed ? kin >= 1 : kin == KinForms.NOT);
    }

    private static void neighbours_PDoesNotGoIntoDISC() {
        discBy(3, true, 2, Known.PACKED);
        discBy(3, false, 3, 1, 1, 1, 0, 0, 1);
        discBy(3, true, 4, Known.CUBE);
        discBy(3, true, 8, 1, 1, 2, 0, 0, 0);
        discBy(3, false, 9, 1, 1, 3, 0, 0, 1);
        discBy(3, true, 10, 1, 1, 3, 1, 1, 0);
        discBy(5, true, 4, Known.CUBE);
        discBy(5, false, 5, 1, 1, 2, 0, 1, 1);
        discBy(5, true, 6, 1, 1, 2, 0, 0, 1);
        discBy(5, true, 24, 1, 2, 3, 0, 0, 0);
        discBy(5, false, 25, 2, 2, 2, -1, 1, 1);
        discBy(5, true, 26, 1, 2, 4, 0, 1, 1);
        discBy(7, true, 6, 1, 1, 2, 0, 0, 1);
        discBy(7, false, 7, 1, 1, 2, 0, 1, 0);
        discBy(7, true, 8, 1, 1, 2, 0, 0, 0);
        discBy(7, true, 48, 2, 2, 3, 0, 0, 0);
        discBy(7, false, 49, 1, 2, 7, 0, 0, 1);
        discBy(7, true, 50, 1, 2, 7, 2, 1, 0);
        for (int p : Known.PRIMES) {
            discBy(p, false, 105, Known.ALL_INTO_DISC);
        }
        discBy(3, false, 6912, 12, 12, 12, 0, 0, 0);
        discBy(5, true, 6912, 12, 12, 12, 0, 0, 0);
    }

    /** Forms with LINES (0, 0, 1), (0, 1, 0), (1, 0, 0) and with LINES far from these. */
    private static final int[][] FORMS_OF_LINES = {
        Known.CUBE, {1, 1, 3, 1, 0, 0}, {1, 3, 1, 1, 0, 0}, {3, 1, 1, 0, 1, 0}, {5, 2, 4, -1, 0, -1}, {3, 4, 6, 0, 1, 0},
        {7, 7, 7, 1, 1, 1}, {5, 5, 5, 1, 1, 1}, {3, 3, 3, 1, 1, 1}, {12, 12, 12, -11, 11, 1}, {1, 2, 11, 0, 0, 1}, {5, 7, 9, 2, 3, -4}
    };

    private static void neighbours_LINES_PAnd1OrderedByXThenYThenZ() {
        for (int[] numbers : FORMS_OF_LINES) {
            for (int p : Known.PRIMES) {
                Run run = withBy(p, numbers);
                if (run.ask("told", 0, 6) % p != 0) {
                    dueLines(run, p, numbers);
                }
            }
        }
    }

    /** Rows from (0, 0, 0) to (P - 1, P - 1, P - 1) in their order: those that the sentence names, and no more. */
    private static void dueLines(Run run, int p, int[] q) {
        int i = 0;
        for (int code = 1; code < p * p * p; code++) {
            int x = code / (p * p);
            int y = code / p % p;
            int z = code % p;
            int first = x != 0 ? x : y != 0 ? y : z;
            if (first == 1 && Model.at(Model.longs(q), x, y, z) % p == 0) {
                run.due(x, "line", 0, i, 0).due(y, "line", 0, i, 1).due(z, "line", 0, i, 2);
                i++;
            }
        }
        CHECK.due("LINES by " + p + " of " + Arrays.toString(q), p + 1, i);
        run.due(KinForms.OUTSIDE, "line", 0, i, 0);
    }

    private static void neighbours_uIsTheFirstUnitRowThatTouchesByWhatPDoesNotGoInto() {
        boolean[] seen = new boolean[3];
        for (int[] numbers : FORMS_OF_LINES) {
            for (int p : Known.PRIMES) {
                Run run = withBy(p, numbers);
                for (int i = 0; i <= p && run.ask("line", 0, i, 0) >= 0; i++) {
                    int[] l = lineOf(run, i);
                    int u = 0;
                    while (u < 2 && touch(run, l, u) % p == 0) {
                        u++;
                    }
                    CHECK.holds("a unit row touches", touch(run, l, u) % p != 0);
                    run.due(u, "line", 0, i, 4);
                    seen[u] = true;
                }
            }
        }
        CHECK.holds("each unit row is u once", seen[0] && seen[1] && seen[2]);
    }

    private static int[] lineOf(Run run, int i) {
        return new int[] {(int) run.ask("line", 0, i, 0), (int) run.ask("line", 0, i, 1), (int) run.ask("line", 0, i, 2)};
    }

    private static long touch(Run run, int[] l, int u) {
        int[] unit = Known.with(new int[3], u, 1);
        return run.ask("value", 0, l[0] + unit[0], l[1] + unit[1], l[2] + unit[2]) - run.ask("value", 0, l[0], l[1], l[2])
            - run.ask("value", 0, unit[0], unit[1], unit[2]);
    }

    private static void neighbours_tIsFrom0ToPLess1() {
        for (int p : Known.PRIMES) {
            boolean[] seen = new boolean[p];
            for (int[] numbers : FORMS_OF_LINES) {
                Run run = withBy(p, numbers);
                for (int i = 0; i <= p && run.ask("line", 0, i, 0) >= 0; i++) {
                    int t = (int) run.ask("line", 0, i, 3);
                    CHECK.holds("t is 0 to P - 1: " + t, t >= 0 && t < p);
                    int[] w = lineOf(run, i);
                    w[(int) run.ask("line", 0, i, 4)] += p * t;
                    CHECK.due("VALUE of w leaves by P P", 0, run.ask("value", 0, w[0], w[1], w[2]) % (p * p));
                    seen[Math.floorMod(t, p)] = true;
                }
            }
            CHECK.holds("0 and P - 1 are t once, by " + p, seen[0] && seen[p - 1]);
        }
    }

    private static void neighbours_theNeighbourHasTheSameDISCAndIsCrossedBack() {
        for (int[] numbers : FORMS_OF_LINES) {
            for (int p : Known.PRIMES) {
                Run run = withBy(p, numbers);
                long disc = run.ask("told", 0, 6);
                for (int i = 0; i <= p && disc % p != 0; i++) {
                    long[] next = new long[6];
                    for (int what = 0; what < 6; what++) {
                        next[what] = run.ask("neighbour", 0, i, what);
                    }
                    checkNeighbour(next, p, disc, numbers);
                }
            }
        }
    }

    private static void checkNeighbour(long[] next, int p, long disc, int[] of) {
        CHECK.due("DISC of a NEIGHBOUR", disc, Model.disc(next));
        boolean positive = next[0] > 0 && 4 * next[0] * next[1] > next[5] * next[5] && Model.disc(next) == disc;
        CHECK.holds("a NEIGHBOUR is positive", positive);
        // The model has no end for what is not positive.
        if (positive) {
            CHECK.holds("told by its LEAST FORM", Arrays.equals(next, Model.least(next).form));
            CHECK.holds("the FORM is a NEIGHBOUR of its own", leadsBack(next, p, of));
        }
    }

    private static boolean leadsBack(long[] from, int p, int[] to) {
        long[] want = Model.least(Model.longs(to)).form;
        for (long[] l : Model.lines(from, p)) {
            if (Arrays.equals(Model.neighbour(from, p, l).form, want)) {
                return true;
            }
        }
        return false;
    }

    private static void neighbours_KIN0IsTheLeastForm() {
        for (int[] numbers : new int[][] {Known.CUBE, Known.FOUR, Known.SIXTEEN, {5, 10, 5, 8, 7, 7}, {12, 12, 12, 1, -1, 1}}) {
            Run run = withBy(7, numbers);
            if (run.ask("kin", 0) > 0) {
                for (int what = 0; what < 7; what++) {
                    run.due(run.ask("told", 0, 7 + what), "kind", 0, 0, what);
                }
            }
        }
    }

    private static void neighbours_KINAreMANYIfTheyAreMoreThan16_sixteen() {
        for (int p : Known.PRIMES) {
            withBy(p, Known.SIXTEEN).due(16, "kin", 0).due(4, "kind", 0, 15, 6).due(KinForms.UNKNOWN, "kind", 0, 16, 6).due(35, "weight", 0, 0);
            withBy(p, 5, 10, 5, 8, 7, 7).due(16, "kin", 0);
            withBy(p, 5, 11, 12, -1, -1, -12).due(16, "kin", 0);
        }
    }

    private static void neighbours_KINAreMANYIfTheyAreMoreThan16_seventeen() {
        for (int p : Known.PRIMES) {
            withBy(p, Known.SEVENTEEN).due(KinForms.MANY, "kin", 0);
        }
        // The seventeenth is found from KIN 3, then only from KIN 15.
        withBy(7, 5, 9, 11, -7, 6, -3).due(KinForms.MANY, "kin", 0);
        withBy(7, 9, 1, 12, 1, 0, -1).due(KinForms.MANY, "kin", 0);
        withBy(3, 4, 5, 5, 0, 0, 1).due(KinForms.MANY, "kin", 0);
    }

    private static void neighbours_KINAreMANYIfTheyAreMoreThan16_thenTheyAreNotTold() {
        for (int p : Known.PRIMES) {
            Run run = withBy(p, Known.SEVENTEEN);
            for (int i : new int[] {-1, 0, 1, 15, 16, 17, Known.MIN, Known.MAX}) {
                run.due(KinForms.MANY, "kind", 0, i, 0).due(KinForms.MANY, "kind", 0, i, 6);
                run.due(KinForms.MANY, "ways", 0, i, 0).due(KinForms.MANY, "ways", 0, 0, i).due(KinForms.MANY, "ways", 0, i, i);
            }
            run.due(KinForms.MANY, "among", 0, 0).due(KinForms.MANY, "weight", 0, 0).due(KinForms.MANY, "weight", 0, 1);
            run.due(KinForms.MANY, "mean", 0, 0, 0).due(KinForms.MANY, "mean", 0, 100, 1);
        }
    }

    private static void neighbours_WAYS_ofPAnd1Neighbours() {
        for (int p : Known.PRIMES) {
            Run run = withBy(p, Known.SIXTEEN);
            for (int i = 0; i < 16; i++) {
                int all = 0;
                for (int j = 0; j < 16; j++) {
                    all += run.ask("ways", 0, i, j);
                }
                CHECK.due("WAYS from KIN " + i + " by " + p, p + 1, all);
            }
            withBy(p, Known.CUBE).due(p + 1, "ways", 0, 0, 0);
        }
    }
}
