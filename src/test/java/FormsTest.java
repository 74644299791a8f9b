/** Promises 1 to 12, each by what is usual, by its edges and by wrong numbers. */
public final class FormsTest {
    private static final Check CHECK = new Check();

    public static void main(String[] args) {
        newObject();
        form();
        set();
        drop();
        told();
        value();
        taken();
        least();
        same();
        table();
        turns();
        count();
        CHECK.end();
    }

    private static void due(String call, long want, long got) {
        CHECK.due(call, want, got);
    }

    private static KinForms with(int a, int b, int c, int d, int e, int f) {
        KinForms x = new KinForms();
        due("first form", 0, x.form(a, b, c, d, e, f));
        return x;
    }

    private static KinForms cube() {
        return with(1, 1, 1, 0, 0, 0);
    }

    private static void newObject() {
        KinForms x = new KinForms();
        due("1: count()", 0, x.count());
        due("1: prime was", 3, x.prime(7));
        KinForms y = new KinForms();
        due("1: objects share no prime", 3, y.prime(3));
        x.form(1, 1, 1, 0, 0, 0);
        due("1: objects share no forms", 0, y.count());
        for (int k = -1; k <= 12; k++) {
            if (k != 0) {
                due("1: least(" + k + ")", KinForms.UNKNOWN, x.least(k));
            }
            due("1: least(" + k + ") of none", KinForms.UNKNOWN, y.least(k));
        }
    }

    private static void form() {
        KinForms x = new KinForms();
        due("2: widest", 0, x.form(12, 12, 12, 12, 12, 12));
        due("2: narrowest", 1, x.form(1, 1, 1, 0, 0, 0));
        due("2: lowest d e f", 2, x.form(12, 12, 12, -12, -12, 12));
        int[][] wrong = {
            {0, 1, 1, 0, 0, 0}, {1, 0, 1, 0, 0, 0}, {1, 1, 0, 0, 0, 0},
            {13, 1, 1, 0, 0, 0}, {1, 13, 1, 0, 0, 0}, {1, 1, 13, 0, 0, 0},
            {12, 12, 12, 13, 0, 0}, {12, 12, 12, 0, 13, 0}, {12, 12, 12, 0, 0, 13},
            {12, 12, 12, -13, 0, 0}, {12, 12, 12, 0, -13, 0}, {12, 12, 12, 0, 0, -13},
            // 4 a b - f f is 0, then below 0; DISC is 0, then below 0
            {1, 1, 1, 0, 0, 2}, {1, 1, 12, 0, 0, -3}, {1, 1, 1, 2, 0, 0}, {2, 2, 2, -2, -2, -2}, {12, 12, 12, -12, -12, -12},
            {1, 2, 1, 0, 3, 0},
            // DISC is above 0 and 4 a b - f f is not: not positive all the same
            {1, 1, 1, 3, -3, -3}, {1, 1, 1, 5, 5, 5},
            {Integer.MIN_VALUE, 1, 1, 0, 0, 0}, {1, 1, 1, Integer.MIN_VALUE, 0, 0}, {1, 1, Integer.MAX_VALUE, 0, 0, 0},
            {65536, 65536, 65536, 0, 0, 0}, {1, 1, 1, 65536, 65536, 65536}
        };
        for (int[] q : wrong) {
            due("2: form" + java.util.Arrays.toString(q), KinForms.OUTSIDE, x.form(q[0], q[1], q[2], q[3], q[4], q[5]));
            due("2: a form refused is not kept", 3, x.count());
        }
        for (int k = 3; k < 12; k++) {
            due("2: form " + k, k, x.form(k, 12, 1, 0, 0, 0));
        }
        due("2: a thirteenth", KinForms.FULL, x.form(1, 1, 1, 0, 0, 0));
        due("2: OUTSIDE ahead of FULL", KinForms.OUTSIDE, x.form(0, 1, 1, 0, 0, 0));
        due("2: twelve stay", 12, x.count());
        due("2: the last is the last", 11, x.told(11, 0));
        due("2: the first is the first", 12, x.told(0, 3));
        due("2: room again", 11, x.drop());
        due("2: in the room", 11, x.form(1, 1, 1, 0, 0, 0));
    }

    private static void set() {
        KinForms x = cube();
        x.form(1, 1, 1, 1, 1, 1);
        due("3: set", 1, x.set(0, 2, 3, 5, 1, -1, 2));
        int[] want = {2, 3, 5, 1, -1, 2, 93};
        for (int what = 0; what < want.length; what++) {
            due("3: told " + what, want[what], x.told(0, what));
        }
        due("3: the other stays", 2, x.told(1, 6));
        due("3: no more of them", 2, x.count());
        due("3: least is new", 2, x.least(0));
        due("3: turns are new", 2, x.told(0, 13));
        due("3: UNKNOWN", KinForms.UNKNOWN, x.set(2, 1, 1, 1, 0, 0, 0));
        due("3: UNKNOWN", KinForms.UNKNOWN, x.set(-1, 1, 1, 1, 0, 0, 0));
        due("3: UNKNOWN ahead of OUTSIDE", KinForms.UNKNOWN, x.set(2, 0, 1, 1, 0, 0, 0));
        due("3: OUTSIDE", KinForms.OUTSIDE, x.set(0, 0, 1, 1, 0, 0, 0));
        due("3: not positive", KinForms.OUTSIDE, x.set(0, 1, 1, 1, 2, 0, 0));
        due("3: refused, nothing changes", 93, x.told(0, 6));
        due("3: refused, nothing changes", 3, x.told(0, 1));
        due("3: kin of the old one", 1, x.kin(1));
        due("3: set the second", 1, x.set(1, 1, 2, 11, 0, 0, 1));
        due("3: kin of the new one", 4, x.kin(1));
        due("3: set while full or not", 1, x.set(1, 1, 1, 1, 0, 0, 0));
        due("3: ways of the new one", 4, x.ways(1, 0, 0));
    }

    private static void drop() {
        KinForms x = new KinForms();
        due("4: none", KinForms.NOT, x.drop());
        x.form(1, 1, 1, 0, 0, 0);
        x.form(1, 1, 2, 0, 0, 0);
        x.form(1, 1, 3, 0, 0, 0);
        due("4: two left", 2, x.drop());
        due("4: the last is gone", KinForms.UNKNOWN, x.told(2, 0));
        due("4: the one before is there", 2, x.told(1, 2));
        due("4: one left", 1, x.drop());
        due("4: none left", 0, x.drop());
        due("4: none", KinForms.NOT, x.drop());
        due("4: count", 0, x.count());
        due("4: numbers start anew", 0, x.form(1, 2, 2, 0, 0, 0));
        due("4: with what is new", 2, x.told(0, 1));
        due("4: kin too", 1, x.kin(0));
    }

    private static void told() {
        KinForms x = with(12, 12, 12, 11, -11, 11);
        int[] want = {12, 12, 12, 11, -11, 11, 1225, 3, 12, 12, -11, -2, -2, 12};
        for (int what = 0; what < 14; what++) {
            due("5: told(0, " + what + ")", want[what], x.told(0, what));
        }
        due("5: OUTSIDE", KinForms.OUTSIDE, x.told(0, -1));
        due("5: OUTSIDE", KinForms.OUTSIDE, x.told(0, 14));
        due("5: UNKNOWN ahead", KinForms.UNKNOWN, x.told(1, 14));
        due("5: UNKNOWN", KinForms.UNKNOWN, x.told(-1, 0));
        int[][] turns = {
            {1, 1, 1, 0, 0, 0, 48}, {1, 1, 1, 1, 1, 1, 48}, {1, 1, 12, 0, 0, 1, 24}, {1, 1, 2, 0, 0, 0, 16},
            {1, 2, 3, 0, 0, 0, 8}, {3, 3, 3, 1, 1, 1, 12}, {1, 2, 10, -1, -1, 0, 4}, {5, 7, 9, 2, 3, -4, 2}
        };
        for (int[] q : turns) {
            KinForms y = with(q[0], q[1], q[2], q[3], q[4], q[5]);
            due("5: turns of " + java.util.Arrays.toString(q), q[6], y.told(0, 13));
        }
        signsOfLeast();
    }

    /** The least d, e, f are low, not near 0. */
    private static void signsOfLeast() {
        KinForms x = with(2, 3, 5, 1, 1, 1);
        int[] want = {2, 3, 5, -1, -1, 1};
        for (int i = 0; i < 6; i++) {
            due("5: least " + i, want[i], x.told(0, 7 + i));
        }
        x.set(0, 1, 1, 1, 1, 1, 1);
        int[] packed = {1, 1, 1, -1, -1, 0};
        for (int i = 0; i < 6; i++) {
            due("5: least of the packed one " + i, packed[i], x.told(0, 7 + i));
        }
    }

    private static void value() {
        KinForms x = with(2, 3, 5, 1, -1, 2);
        due("6: value", 19, x.value(0, 1, -1, 2));
        due("6: at 0", 0, x.value(0, 0, 0, 0));
        due("6: units", 2, x.value(0, -1, 0, 0));
        due("6: units", 3, x.value(0, 0, 1, 0));
        due("6: units", 5, x.value(0, 0, 0, 1));
        due("6: y z", 9, x.value(0, 0, 1, 1));
        due("6: x z", 6, x.value(0, 1, 0, 1));
        due("6: x y", 7, x.value(0, 1, 1, 0));
        due("6: farthest", 12000000, x.value(0, 1000, 1000, 1000));
        due("6: farthest", 6000000, x.value(0, 1000, -1000, 1000));
        x.set(0, 12, 12, 12, 12, 12, 12);
        due("6: greatest", 72000000, x.value(0, -1000, -1000, -1000));
        int[] far = {1001, -1001, Integer.MAX_VALUE, Integer.MIN_VALUE};
        for (int n : far) {
            due("6: x OUTSIDE", KinForms.OUTSIDE, x.value(0, n, 0, 0));
            due("6: y OUTSIDE", KinForms.OUTSIDE, x.value(0, 0, n, 0));
            due("6: z OUTSIDE", KinForms.OUTSIDE, x.value(0, 0, 0, n));
            due("6: UNKNOWN ahead", KinForms.UNKNOWN, x.value(1, n, 0, 0));
        }
    }

    private static void taken() {
        KinForms x = cube();
        int[] squares = {1, 6, 12, 8, 6, 24, 24, 0, 12, 30, 24, 24, 8, 24, 48, 0, 6};
        for (int n = 0; n < squares.length; n++) {
            due("7: three squares, " + n, squares[n], x.taken(0, n));
        }
        due("7: three squares, 100", 30, x.taken(0, 100));
        due("7: three squares, 92", 0, x.taken(0, 92));
        due("7: OUTSIDE", KinForms.OUTSIDE, x.taken(0, -1));
        due("7: OUTSIDE", KinForms.OUTSIDE, x.taken(0, 101));
        due("7: OUTSIDE", KinForms.OUTSIDE, x.taken(0, Integer.MIN_VALUE));
        due("7: UNKNOWN ahead", KinForms.UNKNOWN, x.taken(1, 101));
        x.set(0, 12, 12, 12, 12, 12, 12);
        due("7: all far", 0, x.taken(0, 11));
        due("7: twelve at 12", 12, x.taken(0, 12));
        due("7: zero", 1, x.taken(0, 0));
        // A form and what a table makes of it take alike.
        x.set(0, 2, 3, 5, 1, -1, 2);
        x.form(2, 7, 5, -3, -1, 6);
        for (int n = 0; n <= 100; n++) {
            due("7: alike at " + n, x.taken(0, n), x.taken(1, n));
        }
    }

    private static void least() {
        KinForms x = cube();
        due("8: least", 1, x.least(0));
        x.set(0, 12, 12, 12, 11, -11, 11);
        due("8: less than a, b, c", 3, x.least(0));
        x.set(0, 12, 12, 12, 12, 12, 12);
        due("8: 12", 12, x.least(0));
        due("8: UNKNOWN", KinForms.UNKNOWN, x.least(1));
        due("8: UNKNOWN", KinForms.UNKNOWN, x.least(Integer.MIN_VALUE));
    }

    private static void same() {
        KinForms x = with(5, 7, 9, 2, 3, -4);
        x.form(7, 5, 9, 3, 2, -4);
        x.form(5, 8, 9, -1, 3, 6);
        // Kin of one another: as many turns, the same DISC, and not the same.
        x.form(3, 3, 3, -2, -2, -1);
        x.form(1, 2, 10, -1, -1, 0);
        due("9: itself", 1, x.same(0, 0));
        due("9: letters change places", 1, x.same(0, 1));
        due("9: not", 0, x.same(0, 2));
        due("9: not, the other way", 0, x.same(2, 0));
        due("9: one DISC", x.told(3, 6), x.told(4, 6));
        due("9: kin are not the same", 0, x.same(3, 4));
        due("9: UNKNOWN", KinForms.UNKNOWN, x.same(0, 5));
        due("9: UNKNOWN", KinForms.UNKNOWN, x.same(5, 0));
        due("9: UNKNOWN", KinForms.UNKNOWN, x.same(0, -1));
        due("9: UNKNOWN", KinForms.UNKNOWN, x.same(-1, 0));
    }

    private static void table() {
        KinForms x = with(2, 7, 5, -3, -1, 6);
        int[] want = {-1, 0, 0, 1, -1, 0, 0, 0, -1};
        for (int place = 0; place < 9; place++) {
            due("10: table(0, " + place + ")", want[place], x.table(0, place));
        }
        due("10: OUTSIDE", KinForms.OUTSIDE, x.table(0, -1));
        due("10: OUTSIDE", KinForms.OUTSIDE, x.table(0, 9));
        due("10: UNKNOWN ahead", KinForms.UNKNOWN, x.table(1, 9));
        x.set(0, 1, 1, 1, 0, 0, 0);
        for (int place = 0; place < 9; place++) {
            due("10: the first of 48, " + place, place % 4 == 0 ? -1 : 0, x.table(0, place));
        }
        x.set(0, 3, 2, 1, 0, 0, 0);
        int[] swapped = {0, 0, -1, 0, -1, 0, -1, 0, 0};
        for (int place = 0; place < 9; place++) {
            due("10: letters change places, " + place, swapped[place], x.table(0, place));
        }
        tableTurns();
    }

    /** The table of a form is one that turns it into its least form. */
    private static void tableTurns() {
        int[][] forms = {{12, 12, 12, 11, -11, 11}, {5, 7, 9, 2, 3, -4}, {12, 1, 12, 5, 12, 6}, {1, 1, 1, 1, 1, 1}};
        for (int[] q : forms) {
            KinForms x = with(q[0], q[1], q[2], q[3], q[4], q[5]);
            due("10: least form", 1, x.form(x.told(0, 7), x.told(0, 8), x.told(0, 9), x.told(0, 10), x.told(0, 11), x.told(0, 12)));
            int[] r = new int[9];
            for (int place = 0; place < 9; place++) {
                r[place] = x.table(0, place);
            }
            due("10: it turns", 1, x.turns(0, 1, r[0], r[1], r[2], r[3], r[4], r[5], r[6], r[7], r[8]));
        }
    }

    private static void turns() {
        KinForms x = with(2, 3, 5, 1, -1, 2);
        x.form(2, 7, 5, 0, -1, 6);
        x.form(4, 3, 5, 1, -2, 4);
        due("11: nothing moves", 1, x.turns(0, 0, 1, 0, 0, 0, 1, 0, 0, 0, 1));
        due("11: determinant -1", 1, x.turns(0, 0, -1, 0, 0, 0, -1, 0, 0, 0, -1));
        due("11: rows, not columns", 1, x.turns(0, 1, 1, 0, 0, 1, 1, 0, 0, 0, 1));
        due("11: rows, not columns", 0, x.turns(0, 1, 1, 1, 0, 0, 1, 0, 0, 0, 1));
        due("11: one way only", 0, x.turns(1, 0, 1, 0, 0, 1, 1, 0, 0, 0, 1));
        due("11: and back", 1, x.turns(1, 0, 1, 0, 0, -1, 1, 0, 0, 0, 1));
        due("11: no determinant", 0, x.turns(0, 0, 1, 0, 0, 0, 1, 0, 0, 0, 0));
        due("11: all 0", 0, x.turns(0, 0, 0, 0, 0, 0, 0, 0, 0, 0, 0));
        x.set(0, 1, 1, 1, 0, 0, 0);
        x.set(1, 4, 1, 1, 0, 0, 0);
        due("11: the form fits, the determinant is 2", 0, x.turns(0, 1, 2, 0, 0, 0, 1, 0, 0, 0, 1));
        due("11: letters go round", 1, x.turns(0, 0, 0, 1, 0, 0, 0, 1, 1, 0, 0));
        due("11: farthest numbers", 0, x.turns(0, 0, 20, -20, 20, -20, 20, -20, 20, -20, 20));
        turnsRefused(x);
    }

    private static void turnsRefused(KinForms x) {
        for (int place = 0; place < 9; place++) {
            for (int far : new int[] {21, -21, Integer.MAX_VALUE, Integer.MIN_VALUE}) {
                int[] r = {1, 0, 0, 0, 1, 0, 0, 0, 1};
                r[place] = far;
                due("11: OUTSIDE at " + place, KinForms.OUTSIDE, x.turns(0, 0, r[0], r[1], r[2], r[3], r[4], r[5], r[6], r[7], r[8]));
                due("11: UNKNOWN ahead", KinForms.UNKNOWN, x.turns(0, 3, r[0], r[1], r[2], r[3], r[4], r[5], r[6], r[7], r[8]));
            }
        }
        due("11: UNKNOWN", KinForms.UNKNOWN, x.turns(3, 0, 1, 0, 0, 0, 1, 0, 0, 0, 1));
        due("11: UNKNOWN", KinForms.UNKNOWN, x.turns(0, -1, 1, 0, 0, 0, 1, 0, 0, 0, 1));
        turnsCounted();
    }

    /** As many tables with -1, 0, 1 turn the cube into itself as it has turns. */
    private static void turnsCounted() {
        KinForms x = cube();
        int found = 0;
        for (int code = 0; code < 19683; code++) {
            // An object answers for 512 calls.
            if (code % 500 == 0) {
                x = cube();
            }
            int[] r = new int[9];
            int rest = code;
            for (int place = 0; place < 9; place++) {
                r[place] = rest % 3 - 1;
                rest /= 3;
            }
            found += x.turns(0, 0, r[0], r[1], r[2], r[3], r[4], r[5], r[6], r[7], r[8]);
        }
        due("11: turns counted", x.told(0, 13), found);
    }

    private static void count() {
        KinForms x = new KinForms();
        for (int k = 0; k < 12; k++) {
            due("12: count", k, x.count());
            x.form(1, 1, 1, 0, 0, 0);
        }
        due("12: twelve", 12, x.count());
        x.drop();
        due("12: eleven", 11, x.count());
    }
}
