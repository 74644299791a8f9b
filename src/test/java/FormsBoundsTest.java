import java.util.ArrayList;
import java.util.Arrays;
import java.util.List;

/** The bounds in promises 1 to 12: a test for each sentence, named after it. */
public final class FormsBoundsTest {
    private static final Check CHECK = new Check();
    private static final int[] UNIT = {1, 0, 0, 0, 1, 0, 0, 0, 1};

    /** DISC 2 with far rows: TABLES with 20 and with 21 turn it into FORMS. */
    private static final int[] FAR = {1, 3, 7, -1, -3, 3};
    private static final int[] FAR_BY_20 = {11, 11, 1, 6, 5, 9};
    private static final int[] ROWS_WITH_20 = {-20, 9, -4, -15, 8, -2, -6, 3, -1};
    private static final int[] FAR_BY_21 = {11, 3, 10, 6, 6, 11};
    private static final int[] ROWS_WITH_21 = {-21, 10, -4, -11, 5, -2, -9, 3, -1};

    /** Every FORM with a, b, c of 3 at most and d, e, f of 2 at most: many have the same LEAST FORM, from all sides. */
    private static final List<int[]> SMALL = smallForms();

    public static void main(String[] args) throws IllegalAccessException {
        CHECK.sentences(FormsBoundsTest.class);
        CHECK.end();
    }

    private static Run with(int... numbers) {
        return new Run(CHECK).due(0, "form", numbers);
    }

    private static List<int[]> smallForms() {
        List<int[]> forms = new ArrayList<>();
        for (int code = 0; code < 27 * 125; code++) {
            int[] q = {code % 3 + 1, code / 3 % 3 + 1, code / 9 % 3 + 1, code / 27 % 5 - 2, code / 135 % 5 - 2, code / 675 % 5 - 2};
            if (4 * q[0] * q[1] > q[5] * q[5] && Model.disc(Model.longs(q)) > 0) {
                forms.add(q);
            }
        }
        return forms;
    }

    /** FORM k is 1, 1, k + 1, 0, 0, 0. */
    private static Run withTwelve() {
        Run run = new Run(CHECK);
        for (int k = 0; k < 12; k++) {
            run.due(k, "form", 1, 1, k + 1, 0, 0, 0);
        }
        return run;
    }

    // ---- 1: a new object

    private static void promise01_noForms() {
        new Run(CHECK).due(0, "count").due(KinForms.UNKNOWN, "told", 0, 0).due(KinForms.NOT, "drop").due(0, "form", Known.CUBE);
    }

    private static void promise01_PIs3() {
        new Run(CHECK).due(3, "prime", 3);
        with(Known.CUBE).due(1, "line", 0, 3, 0).due(KinForms.OUTSIDE, "line", 0, 4, 0).due(4, "ways", 0, 0, 0);
        with(1, 1, 1, 0, 0, 1).due(KinForms.NOT, "kin", 0);
    }

    private static void promise01_newObjectsHaveNothingOfOthers() {
        Run one = with(Known.FOUR);
        one.due(3, "prime", 5).due(4, "kin", 0);
        Run other = new Run(CHECK);
        other.due(0, "count").due(0, "form", Known.CUBE).due(1, "kin", 0).due(3, "prime", 7);
        one.due(77, "told", 0, 6).due(4, "kin", 0).due(5, "prime", 3);
    }

    // ---- 2: form

    private static void promise02_itsNumber_0To11() {
        withTwelve().due(1, "told", 0, 2).due(12, "told", 11, 2);
    }

    private static void promise02_OUTSIDE_itIsNotAsTold() {
        Run run = new Run(CHECK);
        for (int place = 0; place < 6; place++) {
            for (int out : new int[] {-13, 13, Known.MIN, Known.MAX}) {
                run.due(KinForms.OUTSIDE, "form", Known.with(new int[] {12, 12, 12, 0, 0, 0}, place, out));
            }
        }
        run.due(KinForms.OUTSIDE, "form", 0, 1, 1, 0, 0, 0).due(KinForms.OUTSIDE, "form", 1, 0, 1, 0, 0, 0).due(KinForms.OUTSIDE, "form", 1, 1, 0, 0, 0, 0);
        run.due(KinForms.OUTSIDE, "form", 0, 0, 0, 0, 0, 0);
        run.due(KinForms.OUTSIDE, "form", 1, 2, 1, 6, 4, 3).due(KinForms.OUTSIDE, "form", 1, 1, 1, 2, 0, 0);
        run.due(0, "count").due(0, "form", 12, 12, 12, 12, 12, 12);
    }

    private static void promise02_FULL() {
        withTwelve().due(KinForms.FULL, "form", Known.CUBE).due(KinForms.FULL, "form", Known.SEVENTEEN)
            .due(12, "count").due(12, "told", 11, 2).due(1, "told", 0, 2);
    }

    private static void promise02_OUTSIDEAheadOfFULL() {
        withTwelve().due(KinForms.OUTSIDE, "form", 13, 1, 1, 0, 0, 0).due(KinForms.OUTSIDE, "form", 1, 1, 1, 2, 0, 0).due(KinForms.FULL, "form", Known.CUBE);
    }

    private static void promise02_roomAgainBehindFULL() {
        withTwelve().due(KinForms.FULL, "form", Known.FOUR).due(11, "drop").due(11, "form", Known.FOUR)
            .due(77, "told", 11, 6).due(4, "kin", 11).due(KinForms.FULL, "form", Known.CUBE);
    }

    // ---- 3: set

    private static void promise03_formKBecomesAnotherOne_theFirstAndTheLastOfTwelve() {
        Run run = withTwelve();
        run.due(1, "set", Known.join(0, Known.FOUR)).due(1, "set", Known.join(11, Known.PACKED)).due(12, "count");
        run.due(77, "told", 0, 6).due(8, "told", 0, 13).due(2, "told", 11, 6).due(48, "told", 11, 13);
        for (int k = 1; k < 11; k++) {
            run.due(k + 1, "told", k, 2).due(4 * (k + 1), "told", k, 6);
        }
    }

    private static void promise03_formKBecomesAnotherOne_nothingOfTheOldOneStays() {
        Run run = with(Known.SIXTEEN).due(16, "kin", 0).due(1, "set", Known.join(0, Known.FOUR));
        run.due(4, "kin", 0).due(KinForms.UNKNOWN, "kind", 0, 4, 0).due(3, "weight", 0, 0).due(4, "mean", 0, 1, 0).due(2, "ways", 0, 0, 1);
        run.due(1, "least", 0).due(0, "table", 0, 1).due(1, "set", Known.join(0, Known.SEVENTEEN)).due(KinForms.MANY, "kin", 0);
        run.due(1, "set", Known.join(0, Known.CUBE)).due(1, "kin", 0).due(4, "ways", 0, 0, 0).due(30, "taken", 0, 9).due(1, "neighbour", 0, 0, 2);
        run.due(1, "set", Known.join(0, Known.CUBE)).due(1, "kin", 0).due(4, "ways", 0, 0, 0).due(48, "weight", 0, 1);
    }

    private static void promise03_UNKNOWN() {
        for (int k : new int[] {-1, 1, 12, Known.MIN, Known.MAX}) {
            with(Known.FOUR).due(KinForms.UNKNOWN, "set", Known.join(k, Known.CUBE)).due(77, "told", 0, 6).due(1, "count");
        }
        new Run(CHECK).due(KinForms.UNKNOWN, "set", Known.join(0, Known.CUBE)).due(0, "count");
        withTwelve().due(KinForms.UNKNOWN, "set", Known.join(12, Known.CUBE));
    }

    private static void promise03_OUTSIDE() {
        Run run = with(Known.FOUR).due(4, "kin", 0);
        for (int place = 0; place < 6; place++) {
            for (int out : new int[] {-13, 13, Known.MIN, Known.MAX}) {
                run.due(KinForms.OUTSIDE, "set", Known.join(0, Known.with(new int[] {12, 12, 12, 0, 0, 0}, place, out)));
            }
        }
        run.due(KinForms.OUTSIDE, "set", 0, 0, 1, 1, 0, 0, 0).due(KinForms.OUTSIDE, "set", 0, 1, 2, 1, 6, 4, 3).due(KinForms.OUTSIDE, "set", 0, 1, 1, 1, 2, 0, 0);
        int[] still = {1, 2, 11, 0, 0, 1, 77, 1, 2, 11, 0, 0, -1, 8};
        for (int what = 0; what < 14; what++) {
            run.due(still[what], "told", 0, what);
        }
        run.due(4, "kin", 0).due(7, "kind", 0, 3, 2);
    }

    private static void promise03_UNKNOWNAheadOfOUTSIDE() {
        with(Known.CUBE).due(KinForms.UNKNOWN, "set", 1, 0, 1, 1, 0, 0, 0).due(KinForms.UNKNOWN, "set", -1, 13, 1, 1, 0, 0, 0).due(KinForms.OUTSIDE, "set", 0, 13, 1, 1, 0, 0, 0);
    }

    // ---- 4: drop

    private static void promise04_howManyAreLeft_fromTwelveToNone() {
        Run run = withTwelve();
        for (int left = 11; left >= 0; left--) {
            run.due(left, "drop").due(left, "count").due(KinForms.UNKNOWN, "told", left, 0);
            if (left > 0) {
                run.due(left, "told", left - 1, 2);
            }
        }
    }

    private static void promise04_NOT_thereIsNone() {
        new Run(CHECK).due(KinForms.NOT, "drop").due(KinForms.NOT, "drop").due(0, "count").due(0, "form", Known.CUBE);
        with(Known.CUBE).due(0, "drop").due(KinForms.NOT, "drop").due(0, "count");
    }

    private static void promise04_theLastFormIsThereNoMore_madeAgainItIsNew() {
        Run run = with(Known.CUBE).due(1, "form", Known.SIXTEEN).due(16, "kin", 1).due(1, "drop").due(1, "form", Known.FOUR);
        run.due(77, "told", 1, 6).due(4, "kin", 1).due(KinForms.UNKNOWN, "kind", 1, 4, 0).due(0, "ways", 1, 0, 0).due(3, "weight", 1, 0).due(8, "told", 1, 13);
        run.due(1, "drop").due(1, "form", Known.SEVENTEEN).due(KinForms.MANY, "kin", 1).due(1, "drop").due(1, "form", Known.CUBE).due(1, "kin", 1).due(1, "same", 0, 1);
        run.due(1, "drop").due(1, "form", Known.CUBE).due(4, "ways", 1, 0, 0).due(48, "weight", 1, 1);
    }

    private static void promise04_theLastFormIsThereNoMore_PStays() {
        with(Known.CUBE).due(3, "prime", 7).due(0, "drop").due(0, "form", Known.CUBE).due(8, "ways", 0, 0, 0).due(7, "prime", 3);
    }

    // ---- 5: told

    private static void promise05_what0To13() {
        int[] want = {12, 12, 12, 11, -11, 11, 1225, 3, 12, 12, -11, -2, -2, 12};
        Run run = with(12, 12, 12, 11, -11, 11);
        for (int what = 0; what < 14; what++) {
            run.due(want[what], "told", 0, what);
        }
    }

    private static void promise05_TURNS_2To48() {
        with(5, 7, 9, 2, 3, -4).due(2, "told", 0, 13);
        with(Known.CUBE).due(48, "told", 0, 13);
        with(12, 12, 12, 12, 12, 12).due(48, "told", 0, 13);
        with(12, 12, 12, 0, 0, 0).due(48, "told", 0, 13);
    }

    private static void promise05_OUTSIDE() {
        for (int what : new int[] {-1, 14, Known.MIN, Known.MAX}) {
            with(Known.CUBE).due(KinForms.OUTSIDE, "told", 0, what);
        }
    }

    private static void promise05_UNKNOWN() {
        for (int k : new int[] {-1, 1, 12, Known.MIN, Known.MAX}) {
            with(Known.CUBE).due(KinForms.UNKNOWN, "told", k, 0).due(KinForms.UNKNOWN, "told", k, 14).due(KinForms.UNKNOWN, "told", k, -1);
        }
    }

    // ---- 6: value

    private static void promise06_xyzAreMinus1000To1000() {
        for (int place = 0; place < 3; place++) {
            int[] at = new int[3];
            for (int in : new int[] {-1000, 1000}) {
                with(1, 2, 3, 0, 0, 0).due((place + 1) * 1000000, "value", Known.join(0, Known.with(at, place, in)));
            }
            for (int in : new int[] {-999, 999}) {
                with(1, 2, 3, 0, 0, 0).due((place + 1) * 998001, "value", Known.join(0, Known.with(at, place, in)));
            }
            for (int out : new int[] {-1001, 1001, Known.MIN, Known.MAX, Known.MIN + 1}) {
                with(1, 2, 3, 0, 0, 0).due(KinForms.OUTSIDE, "value", Known.join(0, Known.with(at, place, out)))
                    .due(KinForms.OUTSIDE, "value", Known.join(0, Known.with(new int[] {1000, -1000, 1000}, place, out)));
            }
        }
        with(1, 2, 3, 0, 0, 0).due(0, "value", 0, 0, 0, 0);
    }

    private static void promise06_theGreatestValue() {
        with(12, 12, 12, 12, 12, 12).due(72000000, "value", 0, 1000, 1000, 1000).due(72000000, "value", 0, -1000, -1000, -1000)
            .due(24000000, "value", 0, 1000, 1000, -1000);
        with(12, 12, 12, -12, -12, 12).due(72000000, "value", 0, 1000, 1000, -1000).due(24000000, "value", 0, 1000, 1000, 1000);
    }

    private static void promise06_UNKNOWNAheadOfOUTSIDE() {
        for (int k : new int[] {-1, 1, 12, Known.MIN, Known.MAX}) {
            with(Known.CUBE).due(KinForms.UNKNOWN, "value", k, 0, 0, 0).due(KinForms.UNKNOWN, "value", k, 1001, 0, 0)
                .due(KinForms.UNKNOWN, "value", k, 0, -1001, 0).due(KinForms.UNKNOWN, "value", k, 0, 0, 1001);
        }
    }

    // ---- 7: taken

    private static void promise07_nIs0To100() {
        // Sums of three squares; of the packed one, twice the number as such a sum.
        with(Known.CUBE).due(1, "taken", 0, 0).due(6, "taken", 0, 1).due(72, "taken", 0, 99).due(30, "taken", 0, 100);
        with(Known.PACKED).due(1, "taken", 0, 0).due(12, "taken", 0, 1).due(120, "taken", 0, 99).due(84, "taken", 0, 100);
        with(FAR).due(1, "taken", 0, 0).due(12, "taken", 0, 1).due(84, "taken", 0, 100);
        with(12, 12, 12, 0, 0, 0).due(1, "taken", 0, 0).due(0, "taken", 0, 11).due(6, "taken", 0, 12).due(24, "taken", 0, 72).due(0, "taken", 0, 84)
            .due(12, "taken", 0, 96).due(0, "taken", 0, 100);
    }

    /** Rows at the very edge of where 100 is taken are counted too. */
    private static void promise07_nIs0To100_farthestRows() {
        int[][] forms = {{12, 10, 12, 1, 1, -6}, {8, 12, 7, -4, -5, -5}, {7, 11, 8, 4, 10, -5}, {11, 11, 9, -5, 7, 11}, {9, 7, 12, 5, -1, 1}, {8, 5, 11, -7, 3, -6}, FAR};
        for (int[] numbers : forms) {
            Run run = with(numbers);
            int[] times = Model.takens(Model.longs(numbers));
            for (int n = 0; n <= 100; n++) {
                run.due(times[n], "taken", 0, n);
            }
        }
    }

    private static void promise07_nIs0To100_smallForms() {
        for (int[] numbers : SMALL) {
            int[] times = Model.takens(Model.longs(numbers));
            with(numbers).due(times[0], "taken", 0, 0).due(times[1], "taken", 0, 1).due(times[99], "taken", 0, 99).due(times[100], "taken", 0, 100);
        }
    }

    private static void promise07_OUTSIDE() {
        for (int n : new int[] {-1, 101, Known.MIN, Known.MAX}) {
            with(Known.CUBE).due(KinForms.OUTSIDE, "taken", 0, n);
        }
    }

    private static void promise07_UNKNOWNAheadOfOUTSIDE() {
        for (int k : new int[] {-1, 1, 12, Known.MIN, Known.MAX}) {
            with(Known.CUBE).due(KinForms.UNKNOWN, "taken", k, 0).due(KinForms.UNKNOWN, "taken", k, -1).due(KinForms.UNKNOWN, "taken", k, 101);
        }
    }

    // ---- 8: least

    private static void promise08_theLeastValueAbove0_1To12() {
        with(Known.CUBE).due(1, "least", 0).due(1, "taken", 0, 0);
        with(12, 12, 12, 0, 0, 0).due(12, "least", 0);
        with(12, 12, 12, 12, 12, 12).due(12, "least", 0);
        with(12, 12, 12, 11, -11, 11).due(3, "least", 0);
        with(3, 10, 11, -2, -7, -8).due(1, "least", 0);
        with(12, 12, 1, 0, 0, 0).due(1, "least", 0);
    }

    private static void promise08_UNKNOWN() {
        new Run(CHECK).due(KinForms.UNKNOWN, "least", 0);
        for (int k : new int[] {-1, 1, 12, Known.MIN, Known.MAX}) {
            with(Known.CUBE).due(KinForms.UNKNOWN, "least", k);
        }
    }

    // ---- 9: same

    private static void promise09_1Or0_theFirstAndTheLastOfTwelve() {
        withTwelve().due(1, "same", 0, 0).due(1, "same", 11, 11).due(0, "same", 0, 11).due(0, "same", 11, 0)
            .due(1, "set", 11, 1, 1, 1, 0, 0, 0).due(1, "same", 0, 11).due(1, "same", 11, 0);
    }

    private static void promise09_1Or0_apartInOneNumberAlone() {
        int[] least = {5, 7, 9, -3, -2, -1};
        Run run = with(least);
        run.due(1, "form", least);
        for (int place = 0; place < 6; place++) {
            run.due(1, "set", Known.join(1, Known.with(least, place, least[place] + 1))).due(0, "same", 0, 1).due(0, "same", 1, 0);
        }
        run.due(1, "set", Known.join(1, least)).due(1, "same", 0, 1);
    }

    private static void promise09_UNKNOWN() {
        new Run(CHECK).due(KinForms.UNKNOWN, "same", 0, 0);
        for (int k : new int[] {-1, 1, 12, Known.MIN, Known.MAX}) {
            with(Known.CUBE).due(KinForms.UNKNOWN, "same", k, 0).due(KinForms.UNKNOWN, "same", 0, k).due(KinForms.UNKNOWN, "same", k, k);
        }
    }

    // ---- 10: table

    private static void promise10_place0To8() {
        int[] want = {-14, 2, -3, -1, 0, 0, 6, -1, 1};
        Run run = with(1, 11, 11, -9, -6, 5);
        for (int place = 0; place < 9; place++) {
            run.due(want[place], "table", 0, place);
        }
    }

    private static void promise10_ofSeveralTheOneWhoseNumbersAreFirstTheLeast() {
        int[][] manyTurns = {{12, 12, 12, 12, 12, 12}, {12, 12, 12, 11, -11, 11}, {2, 2, 2, 1, 1, 1}, {1, 1, 12, 0, 0, 1}};
        for (int[] numbers : manyTurns) {
            dueTable(numbers);
        }
        for (int[] numbers : SMALL) {
            dueTable(numbers);
        }
    }

    private static void dueTable(int[] numbers) {
        Run run = with(numbers);
        long[] table = Model.least(Model.longs(numbers)).table;
        for (int place = 0; place < 9; place++) {
            run.due(table[place], "table", 0, place);
        }
    }

    private static void promise10_OUTSIDE() {
        for (int place : new int[] {-1, 9, Known.MIN, Known.MAX}) {
            with(Known.CUBE).due(KinForms.OUTSIDE, "table", 0, place);
        }
    }

    private static void promise10_UNKNOWNAheadOfOUTSIDE() {
        for (int k : new int[] {-1, 1, 12, Known.MIN, Known.MAX}) {
            with(Known.CUBE).due(KinForms.UNKNOWN, "table", k, 0).due(KinForms.UNKNOWN, "table", k, -1).due(KinForms.UNKNOWN, "table", k, 9);
        }
    }

    // ---- 11: turns

    /** The numbers of a FORM when x stands for y, y for z and z for x. */
    private static int[] lettersOn(int[] q) {
        return new int[] {q[2], q[0], q[1], q[5], q[3], q[4]};
    }

    private static int[] columnsOn(int[] r) {
        return new int[] {r[2], r[0], r[1], r[5], r[3], r[4], r[8], r[6], r[7]};
    }

    private static int[] rowsOn(int[] r) {
        return new int[] {r[6], r[7], r[8], r[0], r[1], r[2], r[3], r[4], r[5]};
    }

    private static int[] negative(int[] r) {
        int[] less = new int[9];
        for (int place = 0; place < 9; place++) {
            less[place] = -r[place];
        }
        return less;
    }

    /** A table and its negative between two forms, moved so that its first number stands at each place. */
    private static void turnsAtEachPlace(long want, int[] from, int[] to, int[] rows) {
        int[] k = from;
        int[] byColumns = rows;
        for (int column = 0; column < 3; column++) {
            int[] j = to;
            int[] r = byColumns;
            for (int row = 0; row < 3; row++) {
                CHECK.due("where the first number stands", rows[0], r[3 * row + column]);
                with(k).due(1, "form", j).due(want, "turns", Known.join(new int[] {0, 1}, r)).due(want, "turns", Known.join(new int[] {0, 1}, negative(r)));
                j = lettersOn(j);
                r = rowsOn(r);
            }
            k = lettersOn(k);
            byColumns = columnsOn(byColumns);
        }
    }

    private static void promise11_numbersAreMinus20To20_at20() {
        turnsAtEachPlace(1, FAR, FAR_BY_20, ROWS_WITH_20);
    }

    private static void promise11_numbersAreMinus20To20_at21() {
        // These would be TABLES that turn one FORM into the other.
        long[] turned = Model.turned(Model.longs(FAR), new long[] {-21, 10, -4}, new long[] {-11, 5, -2}, new long[] {-9, 3, -1});
        CHECK.holds("they would turn", Arrays.equals(turned, Model.longs(FAR_BY_21)));
        turnsAtEachPlace(KinForms.OUTSIDE, FAR, FAR_BY_21, ROWS_WITH_21);
    }

    private static void promise11_OUTSIDE_eachNumber() {
        for (int place = 0; place < 9; place++) {
            Run run = with(Known.CUBE);
            for (int out : new int[] {-21, 21, Known.MIN, Known.MAX}) {
                run.due(KinForms.OUTSIDE, "turns", Known.join(new int[] {0, 0}, Known.with(UNIT, place, out)));
            }
            for (int in : new int[] {-20, 20}) {
                run.due(0, "turns", Known.join(new int[] {0, 0}, Known.with(UNIT, place, in)));
            }
        }
        int[] all = {20, 20, 20, 20, 20, 20, 20, 20, 20};
        with(Known.CUBE).due(0, "turns", Known.join(new int[] {0, 0}, all)).due(0, "turns", Known.join(new int[] {0, 0}, negative(all)))
            .due(0, "turns", 0, 0, 20, -20, 20, -20, 20, -20, 20, -20, 20);
    }

    private static void promise11_UNKNOWNAheadOfOUTSIDE() {
        int[] out = Known.with(UNIT, 8, 21);
        for (int k : new int[] {-1, 1, 12, Known.MIN, Known.MAX}) {
            with(Known.CUBE).due(KinForms.UNKNOWN, "turns", Known.join(new int[] {k, 0}, UNIT)).due(KinForms.UNKNOWN, "turns", Known.join(new int[] {0, k}, UNIT))
                .due(KinForms.UNKNOWN, "turns", Known.join(new int[] {k, 0}, out)).due(KinForms.UNKNOWN, "turns", Known.join(new int[] {0, k}, out));
        }
    }

    private static void promise11_1Or0_apartInOneNumberAlone() {
        int[] base = {5, 7, 9, -3, -2, -1};
        Run run = with(base);
        run.due(1, "form", base);
        for (int place = 0; place < 6; place++) {
            run.due(1, "set", Known.join(1, Known.with(base, place, base[place] + 1))).due(0, "turns", Known.join(new int[] {0, 1}, UNIT));
        }
        run.due(1, "set", Known.join(1, base)).due(1, "turns", Known.join(new int[] {0, 1}, UNIT)).due(1, "turns", Known.join(new int[] {0, 1}, negative(UNIT)));
    }

    // ---- 12: count

    private static void promise12_howManyFormsThereAre_0To12() {
        Run run = new Run(CHECK).due(0, "count");
        for (int k = 0; k < 12; k++) {
            run.due(k, "form", Known.CUBE).due(k + 1, "count").due(KinForms.OUTSIDE, "form", 0, 1, 1, 0, 0, 0).due(k + 1, "count");
        }
        run.due(KinForms.FULL, "form", Known.CUBE).due(12, "count").due(1, "set", Known.join(11, Known.FOUR)).due(12, "count");
        for (int left = 11; left >= 0; left--) {
            run.due(left, "drop").due(left, "count");
        }
        run.due(KinForms.NOT, "drop").due(0, "count");
    }
}
