/** Promises 13 to 21, each by what is usual, by its edges and by wrong numbers. */
public final class NeighboursTest {
    private static final Check CHECK = new Check();

    public static void main(String[] args) {
        prime();
        line();
        neighbour();
        kin();
        kind();
        among();
        ways();
        weight();
        mean();
        refusedChangesNothing();
        laws();
        CHECK.end();
    }

    private static void due(String call, long want, long got) {
        CHECK.due(call, want, got);
    }

    private static KinForms with(int a, int b, int c, int d, int e, int f) {
        KinForms x = new KinForms();
        due("first form", 0, x.form(a, b, c, d, e, f));
        return x;
    }

    /** Four kin by 3 and by 5; 7 goes into DISC, 77. */
    private static KinForms four() {
        return with(1, 2, 11, 0, 0, 1);
    }

    /** More than 16 kin, 17 of them, by 3 and by 7. */
    private static KinForms seventeen() {
        return with(4, 5, 5, 0, 0, 1);
    }

    private static void prime() {
        KinForms x = four();
        due("13: was 3", 3, x.prime(5));
        due("13: was 5", 5, x.prime(7));
        due("13: was 7", 7, x.prime(7));
        for (int p : new int[] {2, 9, 11, 1, 0, -3, 4, 6, 8, 13, Integer.MAX_VALUE, Integer.MIN_VALUE}) {
            due("13: prime(" + p + ")", KinForms.OUTSIDE, x.prime(p));
        }
        due("13: refused, nothing changes", 7, x.prime(3));
    }

    private static void line() {
        KinForms x = with(5, 2, 4, -1, 0, -1);
        int[][] by3 = {{1, 0, 1, 0, 0}, {1, 0, 2, 2, 0}, {1, 1, 0, 2, 2}, {1, 1, 1, 0, 1}};
        int[][] by5 = {{0, 1, 1, 1, 0}, {0, 1, 3, 2, 0}, {1, 0, 0, 1, 1}, {1, 1, 2, 4, 0}, {1, 3, 0, 3, 0}, {1, 3, 2, 2, 0}};
        checkLines(x, 3, by3);
        checkLines(x, 5, by5);
        due("14: i OUTSIDE", KinForms.OUTSIDE, x.line(0, -1, 0));
        due("14: i OUTSIDE", KinForms.OUTSIDE, x.line(0, 6, 0));
        due("14: what OUTSIDE", KinForms.OUTSIDE, x.line(0, 0, -1));
        due("14: what OUTSIDE", KinForms.OUTSIDE, x.line(0, 0, 5));
        due("14: UNKNOWN ahead", KinForms.UNKNOWN, x.line(1, 6, 5));
        due("14: UNKNOWN", KinForms.UNKNOWN, x.line(-1, 0, 0));
        x.prime(7);
        due("14: eight lines by 7", 1, x.line(0, 7, 0));
        due("14: no ninth", KinForms.OUTSIDE, x.line(0, 8, 0));
        x.set(0, 1, 1, 7, 0, 0, 0);
        due("14: NOT", KinForms.NOT, x.line(0, 0, 0));
        due("14: OUTSIDE ahead of NOT", KinForms.OUTSIDE, x.line(0, 8, 0));
        due("14: OUTSIDE ahead of NOT", KinForms.OUTSIDE, x.line(0, 0, 5));
        due("14: UNKNOWN ahead of NOT", KinForms.UNKNOWN, x.line(1, 0, 0));
        // The line (0, 0, 1) is one, where P goes into c.
        x.prime(3);
        x.set(0, 1, 1, 3, 1, 0, 0);
        int[] first = {0, 0, 1, 2, 1};
        for (int what = 0; what < 5; what++) {
            due("14: (0, 0, 1), " + what, first[what], x.line(0, 0, what));
        }
    }

    private static void checkLines(KinForms x, int p, int[][] want) {
        x.prime(p);
        for (int i = 0; i < want.length; i++) {
            for (int what = 0; what < 5; what++) {
                due("14: by " + p + " line(0, " + i + ", " + what + ")", want[i][what], x.line(0, i, what));
            }
        }
    }

    private static void neighbour() {
        KinForms x = with(5, 2, 4, -1, 0, -1);
        int[][] by3 = {{1, 4, 10, -3, 0, 0}, {1, 2, 19, -1, 0, 0}, {2, 5, 5, -4, -2, 1}, {1, 3, 14, -1, -1, 1}};
        for (int i = 0; i < 4; i++) {
            for (int what = 0; what < 6; what++) {
                due("15: neighbour(0, " + i + ", " + what + ")", by3[i][what], x.neighbour(0, i, what));
            }
        }
        due("15: i OUTSIDE", KinForms.OUTSIDE, x.neighbour(0, 4, 0));
        due("15: i OUTSIDE", KinForms.OUTSIDE, x.neighbour(0, -1, 0));
        due("15: what OUTSIDE", KinForms.OUTSIDE, x.neighbour(0, 0, 6));
        due("15: what OUTSIDE", KinForms.OUTSIDE, x.neighbour(0, 0, -1));
        due("15: UNKNOWN ahead", KinForms.UNKNOWN, x.neighbour(1, 4, 6));
        x.prime(7);
        int[] sixth = {1, 1, 38, -1, 0, 0};
        for (int what = 0; what < 6; what++) {
            due("15: by 7, " + what, sixth[what], x.neighbour(0, 5, what));
        }
        due("15: no ninth by 7", KinForms.OUTSIDE, x.neighbour(0, 8, 0));
        x.set(0, 1, 1, 7, 0, 0, 0);
        due("15: NOT", KinForms.NOT, x.neighbour(0, 7, 5));
        due("15: OUTSIDE ahead of NOT", KinForms.OUTSIDE, x.neighbour(0, 8, 0));
        due("15: OUTSIDE ahead of NOT", KinForms.OUTSIDE, x.neighbour(0, 0, 6));
    }

    private static void kin() {
        KinForms x = four();
        due("16: kin by 3", 4, x.kin(0));
        x.prime(5);
        due("16: kin by 5", 4, x.kin(0));
        x.prime(7);
        due("16: NOT", KinForms.NOT, x.kin(0));
        due("16: UNKNOWN", KinForms.UNKNOWN, x.kin(1));
        due("16: UNKNOWN", KinForms.UNKNOWN, x.kin(-1));
        x.prime(3);
        due("16: kin by 3 again", 4, x.kin(0));
        x.set(0, 3, 4, 6, 0, 1, 0);
        due("16: sixteen", 16, x.kin(0));
        KinForms y = seventeen();
        due("16: seventeen are MANY", KinForms.MANY, y.kin(0));
        due("16: MANY again", KinForms.MANY, y.kin(0));
        y.set(0, 1, 1, 1, 0, 0, 0);
        due("16: one behind MANY", 1, y.kin(0));
    }

    private static void kind() {
        KinForms x = four();
        int[][] want = {{1, 2, 11, 0, 0, -1, 8}, {3, 3, 3, -2, -2, -1, 4}, {1, 2, 10, -1, -1, 0, 4}, {1, 3, 7, 0, 0, -1, 8}};
        for (int i = 0; i < 4; i++) {
            for (int what = 0; what < 7; what++) {
                due("17: kind(0, " + i + ", " + what + ")", want[i][what], x.kind(0, i, what));
            }
        }
        due("17: UNKNOWN kin", KinForms.UNKNOWN, x.kind(0, 4, 0));
        due("17: UNKNOWN kin", KinForms.UNKNOWN, x.kind(0, -1, 0));
        due("17: UNKNOWN kin", KinForms.UNKNOWN, x.kind(0, 16, 6));
        due("17: UNKNOWN", KinForms.UNKNOWN, x.kind(1, 0, 0));
        due("17: OUTSIDE", KinForms.OUTSIDE, x.kind(0, 0, 7));
        due("17: OUTSIDE", KinForms.OUTSIDE, x.kind(0, 0, -1));
        due("17: UNKNOWN form ahead of OUTSIDE", KinForms.UNKNOWN, x.kind(1, 0, 7));
        // The document tells this by its orders alone: OUTSIDE ahead of NOT, NOT ahead of UNKNOWN for KIN.
        due("17: OUTSIDE ahead of UNKNOWN kin", KinForms.OUTSIDE, x.kind(0, 99, 7));
        x.prime(7);
        due("17: NOT", KinForms.NOT, x.kind(0, 0, 0));
        due("17: NOT ahead of UNKNOWN kin", KinForms.NOT, x.kind(0, 99, 0));
        due("17: OUTSIDE ahead of NOT", KinForms.OUTSIDE, x.kind(0, 0, 7));
        due("17: UNKNOWN form ahead of NOT", KinForms.UNKNOWN, x.kind(1, 0, 0));
        KinForms y = seventeen();
        due("17: MANY", KinForms.MANY, y.kind(0, 0, 0));
        due("17: MANY ahead of UNKNOWN kin", KinForms.MANY, y.kind(0, 17, 0));
        due("17: OUTSIDE ahead of MANY", KinForms.OUTSIDE, y.kind(0, 0, 7));
        due("17: UNKNOWN form ahead of MANY", KinForms.UNKNOWN, y.kind(-1, 0, 0));
    }

    private static void among() {
        KinForms x = four();
        x.form(10, 2, 1, 0, 1, 1);
        x.form(3, 3, 3, -2, -2, -1);
        x.form(7, 3, 1, 1, 0, 0);
        x.form(3, 3, 3, 1, 1, 1);
        x.form(1, 1, 7, 0, 0, 0);
        x.form(4, 5, 5, 0, 0, 1);
        due("18: itself", 0, x.among(0, 0));
        due("18: the second", 1, x.among(0, 2));
        due("18: the last", 3, x.among(0, 3));
        due("18: from there", 0, x.among(2, 2));
        due("18: NONE", KinForms.NONE, x.among(0, 4));
        due("18: NONE of another DISC", KinForms.NONE, x.among(0, 6));
        due("18: MANY", KinForms.MANY, x.among(6, 0));
        due("18: MANY though the same", KinForms.MANY, x.among(6, 6));
        due("18: UNKNOWN", KinForms.UNKNOWN, x.among(7, 0));
        due("18: UNKNOWN", KinForms.UNKNOWN, x.among(0, 7));
        due("18: UNKNOWN ahead of MANY", KinForms.UNKNOWN, x.among(6, 7));
        due("18: UNKNOWN", KinForms.UNKNOWN, x.among(0, -1));
        x.prime(7);
        due("18: NOT", KinForms.NOT, x.among(0, 6));
        due("18: P goes into the other's DISC alone", KinForms.NONE, x.among(4, 5));
        due("18: UNKNOWN ahead of NOT", KinForms.UNKNOWN, x.among(0, 7));
    }

    private static void ways() {
        KinForms x = four();
        int[][] by3 = {{0, 2, 2, 0}, {1, 3, 0, 0}, {1, 0, 2, 1}, {0, 0, 2, 2}};
        int[][] by5 = {{0, 2, 4, 0}, {1, 1, 2, 2}, {2, 2, 2, 0}, {0, 4, 0, 2}};
        for (int i = 0; i < 4; i++) {
            for (int j = 0; j < 4; j++) {
                x.prime(3);
                due("19: by 3 ways(0, " + i + ", " + j + ")", by3[i][j], x.ways(0, i, j));
                x.prime(5);
                due("19: by 5 ways(0, " + i + ", " + j + ")", by5[i][j], x.ways(0, i, j));
            }
        }
        for (int far : new int[] {4, -1, 15, 16, Integer.MAX_VALUE, Integer.MIN_VALUE}) {
            due("19: UNKNOWN kin", KinForms.UNKNOWN, x.ways(0, far, 0));
            due("19: UNKNOWN kin", KinForms.UNKNOWN, x.ways(0, 0, far));
        }
        due("19: UNKNOWN", KinForms.UNKNOWN, x.ways(1, 0, 0));
        x.prime(7);
        due("19: NOT", KinForms.NOT, x.ways(0, 0, 0));
        due("19: NOT ahead of UNKNOWN kin", KinForms.NOT, x.ways(0, 99, 99));
        due("19: UNKNOWN form ahead of NOT", KinForms.UNKNOWN, x.ways(-1, 0, 0));
        KinForms y = seventeen();
        due("19: MANY", KinForms.MANY, y.ways(0, 0, 0));
        due("19: MANY ahead of UNKNOWN kin", KinForms.MANY, y.ways(0, 99, -1));
    }

    private static void weight() {
        KinForms x = four();
        due("20: upper", 3, x.weight(0, 0));
        due("20: lower", 4, x.weight(0, 1));
        due("20: OUTSIDE", KinForms.OUTSIDE, x.weight(0, 2));
        due("20: OUTSIDE", KinForms.OUTSIDE, x.weight(0, -1));
        due("20: UNKNOWN ahead", KinForms.UNKNOWN, x.weight(1, 2));
        x.prime(7);
        due("20: NOT", KinForms.NOT, x.weight(0, 0));
        due("20: OUTSIDE ahead of NOT", KinForms.OUTSIDE, x.weight(0, 2));
        KinForms y = seventeen();
        due("20: MANY", KinForms.MANY, y.weight(0, 1));
        due("20: OUTSIDE ahead of MANY", KinForms.OUTSIDE, y.weight(0, 2));
        y.set(0, 3, 4, 6, 0, 1, 0);
        due("20: above 1, upper", 35, y.weight(0, 0));
        due("20: above 1, lower", 8, y.weight(0, 1));
        y.set(0, 1, 1, 1, 1, 1, 1);
        due("20: one of 48, upper", 1, y.weight(0, 0));
        due("20: one of 48, lower", 48, y.weight(0, 1));
    }

    private static void mean() {
        KinForms x = four();
        long[] upper = {1, 4, 4, 4, 4, 4, 4, 4, 4, 4, 16, 22, 8};
        long[] lower = {1, 3, 3, 1, 1, 3, 3, 3, 1, 1, 3, 3, 1};
        for (int p = 3; p <= 5; p += 2) {
            x.prime(p);
            for (int n = 0; n < upper.length; n++) {
                due("21: mean(0, " + n + ", 0)", upper[n], x.mean(0, n, 0));
                due("21: mean(0, " + n + ", 1)", lower[n], x.mean(0, n, 1));
            }
        }
        due("21: 100", 28, x.mean(0, 100, 0));
        due("21: n OUTSIDE", KinForms.OUTSIDE, x.mean(0, 101, 0));
        due("21: n OUTSIDE", KinForms.OUTSIDE, x.mean(0, -1, 0));
        due("21: what OUTSIDE", KinForms.OUTSIDE, x.mean(0, 1, 2));
        due("21: what OUTSIDE", KinForms.OUTSIDE, x.mean(0, 1, -1));
        due("21: UNKNOWN ahead", KinForms.UNKNOWN, x.mean(1, 101, 2));
        x.prime(7);
        due("21: NOT", KinForms.NOT, x.mean(0, 1, 0));
        due("21: OUTSIDE ahead of NOT", KinForms.OUTSIDE, x.mean(0, 101, 0));
        KinForms y = seventeen();
        due("21: MANY", KinForms.MANY, y.mean(0, 1, 0));
        due("21: OUTSIDE ahead of MANY", KinForms.OUTSIDE, y.mean(0, 1, 2));
        y.set(0, 1, 1, 1, 0, 0, 0);
        due("21: never taken, upper", 0, y.mean(0, 7, 0));
        due("21: never taken, lower", 1, y.mean(0, 7, 1));
    }

    private static void refusedChangesNothing() {
        KinForms x = four();
        x.kin(0);
        x.set(0, 0, 2, 11, 0, 0, 1);
        x.prime(4);
        x.kind(0, 9, 9);
        x.kind(0, 9, 0);
        x.form(13, 1, 1, 0, 0, 0);
        x.turns(0, 0, 21, 0, 0, 0, 1, 0, 0, 0, 1);
        due("refused: kin", 4, x.kin(0));
        due("refused: kind", 10, x.kind(0, 2, 2));
        due("refused: count", 1, x.count());
        due("refused: prime", 3, x.prime(3));
    }

    /** What is true of kin, whichever they are: so that no answer is right by chance. */
    private static void laws() {
        int[][] forms = {{3, 4, 6, 0, 1, 0}, {1, 2, 11, 0, 0, 1}, {2, 3, 5, 1, -1, 2}, {5, 2, 4, -1, 0, -1}, {12, 12, 12, 1, -1, 1}};
        for (int[] q : forms) {
            for (int p = 3; p <= 7; p += 2) {
                KinForms x = with(q[0], q[1], q[2], q[3], q[4], q[5]);
                x.prime(p);
                if (x.kin(0) > 0) {
                    lawOfWays(x, p);
                }
            }
        }
    }

    private static void lawOfWays(KinForms x, int p) {
        int size = x.kin(0);
        int[] turns = new int[size];
        int[][] ways = new int[size][size];
        for (int i = 0; i < size; i++) {
            turns[i] = x.kind(0, i, 6);
            for (int j = 0; j < size; j++) {
                ways[i][j] = x.ways(0, i, j);
            }
        }
        for (int i = 0; i < size; i++) {
            int all = 0;
            for (int j = 0; j < size; j++) {
                all += ways[i][j];
                due("ways there and back", (long) ways[i][j] * turns[j], (long) ways[j][i] * turns[i]);
            }
            due("ways from one", p + 1, all);
        }
        for (int what = 0; what < 6; what++) {
            due("the first of the kin", x.told(0, 7 + what), x.kind(0, 0, what));
        }
    }
}
