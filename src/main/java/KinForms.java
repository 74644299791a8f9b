/**
 * Kin of forms: positive whole square forms in three letters, their least forms, turns,
 * neighbours by an odd prime, and the kin that neighbours lead to.
 *
 * <p>A form is held as six numbers a b c d e f. Of its unit rows i and j the TOUCH stands at
 * place 6 - i - j of the six, which is what most index sums below go back to.
 */
public final class KinForms {
    public static final int NONE = -1, UNKNOWN = -100001, OUTSIDE = -100002, NOT = -100003, FULL = -100004, MANY = -100005;

    private static final int MOST_FORMS = 12;
    private static final int MOST_KIN = 16;
    private static final int MOST_TAKEN = 100;
    private static final int FARTHEST = 1000;
    private static final int WIDEST = 20;

    // The turns of a form in three letters are 2, 4, 8, 12, 16, 24 or 48: all go into 48,
    // so that sums of parts by turns are whole when told in parts of 48.
    private static final int PARTS = 48;

    private final Form[] forms;
    private final Reducer reducer;
    private final Lines lines;
    private final int[] given;
    private final int[] givenRows;
    private final int[] turned;
    private int held;
    private int p;

    public KinForms() {
        forms = new Form[MOST_FORMS];
        for (int k = 0; k < MOST_FORMS; k++) {
            forms[k] = new Form();
        }
        reducer = new Reducer();
        lines = new Lines();
        given = new int[6];
        givenRows = new int[9];
        turned = new int[6];
        held = 0;
        p = 3;
    }

    // ---- forms

    public int form(int a, int b, int c, int d, int e, int f) {
        give(a, b, c, d, e, f);
        if (!Six.isForm(given)) {
            return OUTSIDE;
        }
        if (held >= MOST_FORMS) {
            return FULL;
        }
        forms[held].become(given, reducer);
        held++;
        return held - 1;
    }

    public int set(int k, int a, int b, int c, int d, int e, int f) {
        if (isUnknown(k)) {
            return UNKNOWN;
        }
        give(a, b, c, d, e, f);
        if (!Six.isForm(given)) {
            return OUTSIDE;
        }
        forms[k].become(given, reducer);
        return 1;
    }

    public int drop() {
        if (held == 0) {
            return NOT;
        }
        held--;
        return held;
    }

    public int told(int k, int what) {
        if (isUnknown(k)) {
            return UNKNOWN;
        }
        if (isOutside(what, 0, 13)) {
            return OUTSIDE;
        }
        Form form = forms[k];
        if (what < 6) {
            return form.numbers[what];
        }
        if (what == 6) {
            return form.disc;
        }
        return what < 13 ? form.leastNumbers[what - 7] : form.ownTurns;
    }

    public int value(int k, int x, int y, int z) {
        if (isUnknown(k)) {
            return UNKNOWN;
        }
        if (isOutside(x, -FARTHEST, FARTHEST) || isOutside(y, -FARTHEST, FARTHEST) || isOutside(z, -FARTHEST, FARTHEST)) {
            return OUTSIDE;
        }
        return Six.at(forms[k].numbers, x, y, z);
    }

    public int taken(int k, int n) {
        if (isUnknown(k)) {
            return UNKNOWN;
        }
        if (isOutside(n, 0, MOST_TAKEN)) {
            return OUTSIDE;
        }
        return Taking.timesOf(forms[k].leastNumbers, n);
    }

    public int least(int k) {
        return isUnknown(k) ? UNKNOWN : forms[k].leastNumbers[0];
    }

    public int same(int k, int j) {
        if (isUnknown(k) || isUnknown(j)) {
            return UNKNOWN;
        }
        return Six.areAlike(forms[k].leastNumbers, forms[j].leastNumbers) ? 1 : 0;
    }

    public int table(int k, int place) {
        if (isUnknown(k)) {
            return UNKNOWN;
        }
        return isOutside(place, 0, 8) ? OUTSIDE : forms[k].toLeast[place];
    }

    public int turns(int k, int j, int r0, int r1, int r2, int r3, int r4, int r5, int r6, int r7, int r8) {
        if (isUnknown(k) || isUnknown(j)) {
            return UNKNOWN;
        }
        giveRow(0, r0, r1, r2);
        giveRow(1, r3, r4, r5);
        giveRow(2, r6, r7, r8);
        for (int place = 0; place < 9; place++) {
            if (isOutside(givenRows[place], -WIDEST, WIDEST)) {
                return OUTSIDE;
            }
        }
        if (!areTable(givenRows, 0, 3, 6)) {
            return 0;
        }
        Six.turn(forms[k].numbers, givenRows, turned);
        return Six.areAlike(turned, forms[j].numbers) ? 1 : 0;
    }

    public int count() {
        return held;
    }

    // ---- neighbours

    public int prime(int p) {
        if (p != 3 && p != 5 && p != 7) {
            return OUTSIDE;
        }
        int before = this.p;
        this.p = p;
        return before;
    }

    public int line(int k, int i, int what) {
        int refusal = refusalOfLine(k, i, what, 4);
        if (refusal != 0) {
            return refusal;
        }
        lines.find(forms[k].numbers, p);
        lines.choose(i);
        if (what < 3) {
            return lines.part(i, what);
        }
        return what == 3 ? lines.t : lines.u;
    }

    public int neighbour(int k, int i, int what) {
        int refusal = refusalOfLine(k, i, what, 5);
        if (refusal != 0) {
            return refusal;
        }
        lines.find(forms[k].numbers, p);
        lines.choose(i);
        lines.cross();
        reducer.settle(lines.crossed);
        return reducer.best[what];
    }

    public int kin(int k) {
        return isUnknown(k) ? UNKNOWN : sizeOfKin(k);
    }

    // UNKNOWN for KIN i comes last: which KIN there are is known only behind NOT and MANY.
    public int kind(int k, int i, int what) {
        if (isUnknown(k)) {
            return UNKNOWN;
        }
        if (isOutside(what, 0, 6)) {
            return OUTSIDE;
        }
        int size = sizeOfKin(k);
        if (size < 0) {
            return size;
        }
        if (isOutside(i, 0, size - 1)) {
            return UNKNOWN;
        }
        Family family = forms[k].family;
        return what < 6 ? family.members[i][what] : family.memberTurns[i];
    }

    public int among(int k, int j) {
        if (isUnknown(k) || isUnknown(j)) {
            return UNKNOWN;
        }
        int size = sizeOfKin(k);
        return size < 0 ? size : forms[k].family.placeOf(forms[j].leastNumbers);
    }

    public int ways(int k, int i, int j) {
        if (isUnknown(k)) {
            return UNKNOWN;
        }
        int size = sizeOfKin(k);
        if (size < 0) {
            return size;
        }
        if (isOutside(i, 0, size - 1) || isOutside(j, 0, size - 1)) {
            return UNKNOWN;
        }
        return forms[k].family.paths[i][j];
    }

    public long weight(int k, int what) {
        if (isUnknown(k)) {
            return UNKNOWN;
        }
        if (isOutside(what, 0, 1)) {
            return OUTSIDE;
        }
        int size = sizeOfKin(k);
        if (size < 0) {
            return size;
        }
        return inLeastTerms(forms[k].family.partsOfAll(), PARTS, what);
    }

    public long mean(int k, int n, int what) {
        if (isUnknown(k)) {
            return UNKNOWN;
        }
        if (isOutside(n, 0, MOST_TAKEN) || isOutside(what, 0, 1)) {
            return OUTSIDE;
        }
        int size = sizeOfKin(k);
        if (size < 0) {
            return size;
        }
        Family family = forms[k].family;
        return inLeastTerms(family.partsTaking(n), family.partsOfAll(), what);
    }

    // ---- what the calls share

    private boolean isUnknown(int k) {
        return k < 0 || k >= held;
    }

    private static boolean isOutside(int number, int from, int to) {
        return number < from || number > to;
    }

    private void give(int a, int b, int c, int d, int e, int f) {
        given[0] = a;
        given[1] = b;
        given[2] = c;
        given[3] = d;
        given[4] = e;
        given[5] = f;
    }

    private void giveRow(int row, int x, int y, int z) {
        givenRows[3 * row] = x;
        givenRows[3 * row + 1] = y;
        givenRows[3 * row + 2] = z;
    }

    private boolean goesIntoDisc(int k) {
        return forms[k].disc % p == 0;
    }

    /** 0, if LINE i of FORM k can be told. */
    private int refusalOfLine(int k, int i, int what, int lastWhat) {
        if (isUnknown(k)) {
            return UNKNOWN;
        }
        if (isOutside(i, 0, p) || isOutside(what, 0, lastWhat)) {
            return OUTSIDE;
        }
        return goesIntoDisc(k) ? NOT : 0;
    }

    /** How many KIN FORM k has, NOT or MANY; KIN are found here, if they were not yet. */
    private int sizeOfKin(int k) {
        if (goesIntoDisc(k)) {
            return NOT;
        }
        Form form = forms[k];
        Family family = form.family;
        if (family.foundBy != p) {
            family.begin(form, p);
            for (int i = 0; i < MOST_KIN && i < family.size && !family.many; i++) {
                family.visit(i, lines, reducer);
            }
        }
        return family.many ? MANY : family.size;
    }

    /** Whether the rows that start at places i, j and k have a determinant of 1 or -1. */
    private static boolean areTable(int[] rows, int i, int j, int k) {
        int determinant = rows[i] * (rows[j + 1] * rows[k + 2] - rows[j + 2] * rows[k + 1])
            - rows[i + 1] * (rows[j] * rows[k + 2] - rows[j + 2] * rows[k])
            + rows[i + 2] * (rows[j] * rows[k + 1] - rows[j + 1] * rows[k]);
        return determinant == 1 || determinant == -1;
    }

    private static long inLeastTerms(long upper, long lower, int what) {
        long common = commonOf(upper, lower);
        if (common <= 0) {
            return 0;
        }
        return what == 0 ? upper / common : lower / common;
    }

    private static long commonOf(long one, long other) {
        long high = one;
        long low = other;
        // Each second step halves the numbers: longs need fewer than 128.
        for (int step = 0; step < 128 && low != 0; step++) {
            long rest = high % low;
            high = low;
            low = rest;
        }
        return high;
    }

    /** A FORM, with what is found when it is made and the KIN by the prime asked for last. */
    private static final class Form {
        private final int[] numbers = new int[6];
        private final int[] leastNumbers = new int[6];
        private final int[] toLeast = new int[9];
        private final Family family = new Family();
        private int disc;
        private int ownTurns;

        private void become(int[] six, Reducer reducer) {
            System.arraycopy(six, 0, numbers, 0, 6);
            disc = Six.discOf(numbers);
            reducer.settle(numbers);
            System.arraycopy(reducer.best, 0, leastNumbers, 0, 6);
            System.arraycopy(reducer.bestRows, 0, toLeast, 0, 9);
            ownTurns = reducer.ties;
            family.foundBy = 0;
        }
    }

    /** What is reckoned from the six numbers of a form alone. */
    private static final class Six {
        private static boolean isForm(int[] six) {
            for (int i = 0; i < 3; i++) {
                if (isOutside(six[i], 1, 12) || isOutside(six[3 + i], -12, 12)) {
                    return false;
                }
            }
            return 4 * six[0] * six[1] - six[5] * six[5] > 0 && discOf(six) > 0;
        }

        private static int discOf(int[] six) {
            return 4 * six[0] * six[1] * six[2] + six[3] * six[4] * six[5]
                - six[0] * six[3] * six[3] - six[1] * six[4] * six[4] - six[2] * six[5] * six[5];
        }

        private static int at(int[] six, int x, int y, int z) {
            return x * (six[0] * x + six[5] * y + six[4] * z) + y * (six[1] * y + six[3] * z) + six[2] * z * z;
        }

        /** The VALUE at the row that starts at a place of rows. */
        private static int atRow(int[] six, int[] rows, int place) {
            return at(six, rows[place], rows[place + 1], rows[place + 2]);
        }

        /** The TOUCH of the row that starts at a place of rows and a unit row. */
        private static int touchUnit(int[] six, int[] rows, int place, int unit) {
            int j = (unit + 1) % 3;
            int k = (unit + 2) % 3;
            return 2 * six[unit] * rows[place + unit] + six[3 + k] * rows[place + j] + six[3 + j] * rows[place + k];
        }

        /** The TOUCH of two rows that start at places of rows. */
        private static int touch(int[] six, int[] rows, int one, int other) {
            int x = rows[one];
            int y = rows[one + 1];
            int z = rows[one + 2];
            return rows[other] * (2 * six[0] * x + six[5] * y + six[4] * z)
                + rows[other + 1] * (2 * six[1] * y + six[3] * z + six[5] * x)
                + rows[other + 2] * (2 * six[2] * z + six[3] * y + six[4] * x);
        }

        /** Writes the numbers of the form that three rows make of this one. */
        private static void turn(int[] six, int[] rows, int[] into) {
            for (int i = 0; i < 3; i++) {
                into[i] = atRow(six, rows, 3 * i);
            }
            into[3] = touch(six, rows, 3, 6);
            into[4] = touch(six, rows, 0, 6);
            into[5] = touch(six, rows, 0, 3);
        }

        private static boolean areAlike(int[] one, int[] other) {
            for (int i = 0; i < 6; i++) {
                if (one[i] != other[i]) {
                    return false;
                }
            }
            return true;
        }
    }

    /** How often a number is taken. */
    private static final class Taking {
        /**
         * Is asked of least forms alone: there the bounds of y and z are narrow. With y and z
         * held, x is what solves a square equation.
         */
        private static int timesOf(int[] six, int n) {
            int disc = Six.discOf(six);
            if (disc <= 0) {
                return 0;
            }
            int farY = rootOf(n * (4 * six[0] * six[2] - six[4] * six[4]) / disc);
            int farZ = rootOf(n * (4 * six[0] * six[1] - six[5] * six[5]) / disc);
            int times = 0;
            for (int z = -farZ; z <= farZ; z++) {
                for (int y = -farY; y <= farY; y++) {
                    times += timesAt(six, n, y, z);
                }
            }
            return times;
        }

        private static int timesAt(int[] six, int n, int y, int z) {
            int twice = 2 * six[0];
            int middle = six[5] * y + six[4] * z;
            int square = middle * middle - 2 * twice * (Six.at(six, 0, y, z) - n);
            if (twice <= 0 || square < 0) {
                return 0;
            }
            int root = rootOf(square);
            if (root * root != square) {
                return 0;
            }
            int times = (root - middle) % twice == 0 ? 1 : 0;
            if (root != 0 && (root + middle) % twice == 0) {
                times++;
            }
            return times;
        }

        /** The greatest number whose square is not above one that is below 2 to the 30. */
        private static int rootOf(int number) {
            int root = 0;
            for (int bit = 1 << 14; bit > 0; bit >>= 1) {
                if ((root + bit) * (root + bit) <= number) {
                    root += bit;
                }
            }
            return root;
        }
    }

    /**
     * Finds the LEAST FORM of a form, how many TABLES lead there, and the first of these.
     *
     * <p>First rows are made shorter, each by sums of the two others with -1, 0 and 1, until
     * none gets shorter: in three letters their VALUES are the least a, b, c then. Rows that
     * have these VALUES and make a TABLE have -1, 0 and 1 alone in terms of them: so that the
     * least d, e, f are found among the 27 rows of the BOX.
     */
    private static final class Reducer {
        private static final int BOX = 27;
        // Each step makes a, b, c less by 1 at least; a few dozen are usual.
        private static final int MOST_STEPS = 1000000;

        private final int[] six = new int[6];
        private final int[] rows = new int[9];
        private final int[] box = new int[3 * BOX];
        private final int[] worth = new int[BOX];
        private final int[] image = new int[3 * BOX];
        private final int[] best = new int[6];
        private final int[] bestRows = new int[9];
        private int ties;

        private Reducer() {
            for (int m = 0; m < BOX; m++) {
                box[3 * m] = m / 9 - 1;
                box[3 * m + 1] = m / 3 % 3 - 1;
                box[3 * m + 2] = m % 3 - 1;
            }
        }

        /** Leaves the LEAST FORM in best, the first TABLE in bestRows, their count in ties. */
        private void settle(int[] numbers) {
            System.arraycopy(numbers, 0, six, 0, 6);
            for (int place = 0; place < 9; place++) {
                rows[place] = place % 4 == 0 ? 1 : 0;
            }
            boolean moved = true;
            for (int step = 0; moved && step < MOST_STEPS; step++) {
                moved = shortenByOne() || shortenByTwo();
            }
            fillBox();
            search();
        }

        /** Whether a row got shorter by the nearest times of another one. */
        private boolean shortenByOne() {
            for (int i = 0; i < 3; i++) {
                for (int j = 0; j < 3; j++) {
                    if (i != j && six[j] > 0) {
                        int touch = six[6 - i - j];
                        int times = Math.floorDiv(six[j] - touch, 2 * six[j]);
                        if (times * (touch + times * six[j]) < 0) {
                            shift(i, j, times);
                            return true;
                        }
                    }
                }
            }
            return false;
        }

        /** Whether a row got shorter by both others at once, each added or taken away. */
        private boolean shortenByTwo() {
            for (int i = 0; i < 3; i++) {
                int j = (i + 1) % 3;
                int k = (i + 2) % 3;
                for (int s = -1; s <= 1; s += 2) {
                    for (int t = -1; t <= 1; t += 2) {
                        if (six[j] + six[k] + s * six[3 + k] + t * six[3 + j] + s * t * six[3 + i] < 0) {
                            shift(i, j, s);
                            shift(i, k, t);
                            return true;
                        }
                    }
                }
            }
            return false;
        }

        /** Adds times of row j to row i. */
        private void shift(int i, int j, int times) {
            six[i] += times * (six[6 - i - j] + times * six[j]);
            six[6 - i - j] += 2 * times * six[j];
            six[3 + j] += times * six[3 + i];
            for (int place = 0; place < 3; place++) {
                rows[3 * i + place] += times * rows[3 * j + place];
            }
        }

        private void fillBox() {
            for (int m = 0; m < BOX; m++) {
                worth[m] = Six.atRow(six, box, 3 * m);
                for (int place = 0; place < 3; place++) {
                    image[3 * m + place] = box[3 * m] * rows[place]
                        + box[3 * m + 1] * rows[3 + place] + box[3 * m + 2] * rows[6 + place];
                }
            }
        }

        private void search() {
            best[0] = Math.min(six[0], Math.min(six[1], six[2]));
            best[2] = Math.max(six[0], Math.max(six[1], six[2]));
            best[1] = six[0] + six[1] + six[2] - best[0] - best[2];
            ties = 0;
            for (int i = 0; i < BOX; i++) {
                for (int j = 0; worth[i] == best[0] && j < BOX; j++) {
                    for (int k = 0; worth[j] == best[1] && k < BOX; k++) {
                        if (worth[k] == best[2] && areTable(box, 3 * i, 3 * j, 3 * k)) {
                            consider(3 * i, 3 * j, 3 * k);
                        }
                    }
                }
            }
        }

        private void consider(int i, int j, int k) {
            int d = Six.touch(six, box, j, k);
            int e = Six.touch(six, box, i, k);
            int f = Six.touch(six, box, i, j);
            int order = ties == 0 ? -1 : compareTouches(d, e, f);
            if (order > 0) {
                return;
            }
            if (order < 0) {
                best[3] = d;
                best[4] = e;
                best[5] = f;
                ties = 0;
            }
            if (ties == 0 || isAhead(i, j, k)) {
                System.arraycopy(image, i, bestRows, 0, 3);
                System.arraycopy(image, j, bestRows, 3, 3);
                System.arraycopy(image, k, bestRows, 6, 3);
            }
            ties++;
        }

        private int compareTouches(int d, int e, int f) {
            if (d != best[3]) {
                return Integer.compare(d, best[3]);
            }
            return e != best[4] ? Integer.compare(e, best[4]) : Integer.compare(f, best[5]);
        }

        /** Whether the nine numbers of three images come ahead of those in bestRows. */
        private boolean isAhead(int i, int j, int k) {
            for (int place = 0; place < 9; place++) {
                int start = place < 3 ? i : place < 6 ? j : k;
                int number = image[start + place % 3];
                if (number != bestRows[place]) {
                    return number < bestRows[place];
                }
            }
            return false;
        }
    }

    /** The LINES of a form by a prime that does not go into its DISC, and what lies across them. */
    private static final class Lines {
        private static final int MOST_LINES = 8;

        private final int[] six = new int[6];
        private final int[] all = new int[3 * MOST_LINES];
        private final int[] w = new int[3];
        private final int[] basis = new int[9];
        private final int[] crossed = new int[6];
        private int found;
        private int p = 3;
        private int t;
        private int u;

        private void find(int[] numbers, int prime) {
            System.arraycopy(numbers, 0, six, 0, 6);
            p = prime;
            found = 0;
            findOne(0, 0, 1);
            for (int z = 0; z < p; z++) {
                findOne(0, 1, z);
            }
            for (int y = 0; y < p; y++) {
                for (int z = 0; z < p; z++) {
                    findOne(1, y, z);
                }
            }
        }

        private void findOne(int x, int y, int z) {
            if (found < MOST_LINES && Six.at(six, x, y, z) % p == 0) {
                all[3 * found] = x;
                all[3 * found + 1] = y;
                all[3 * found + 2] = z;
                found++;
            }
        }

        /** Number what (0 .. 2) of LINE i (0 .. P). */
        private int part(int i, int what) {
            return all[3 * i + what];
        }

        /** Sets u, t and w as they are for LINE i (0 .. P). */
        private void choose(int i) {
            u = 0;
            for (int unit = 2; unit >= 0; unit--) {
                if (Six.touchUnit(six, all, 3 * i, unit) % p != 0) {
                    u = unit;
                }
            }
            System.arraycopy(all, 3 * i, w, 0, 3);
            t = 0;
            for (int step = 1; step < p && Six.atRow(six, w, 0) % (p * p) != 0; step++) {
                w[u] += p;
                t = step;
            }
        }

        /** Writes into crossed the numbers of the NEIGHBOUR by the LINE chosen, not yet its least ones. */
        private void cross() {
            layBasis();
            Six.turn(six, basis, crossed);
            crossed[0] /= p * p;
            crossed[4] /= p;
            crossed[5] /= p;
        }

        /**
         * Rows whose TOUCH with w goes by P are whole sums of three: two unit rows but u, each
         * less times of u, and P u. In terms of these w has a number at one of the first two
         * that P does not go into. Times of w that leave 1 there (going by P) then stand in
         * its stead: the first row of the basis, which is P times what the NEIGHBOUR has.
         */
        private void layBasis() {
            int v = w[(u + 1) % 3] % p != 0 ? (u + 1) % 3 : (u + 2) % 3;
            int o = 3 - u - v;
            int inverse = inverseOf(Six.touchUnit(six, w, 0, u));
            int lessV = Math.floorMod(inverse * Math.floorMod(Six.touchUnit(six, w, 0, v), p), p);
            int lessO = Math.floorMod(inverse * Math.floorMod(Six.touchUnit(six, w, 0, o), p), p);
            int onU = (w[u] + lessV * w[v] + lessO * w[o]) / p;
            int times = inverseOf(w[v]);
            int timesO = Math.floorMod(times * w[o], p);
            int timesU = Math.floorMod(times * onU, p);
            basis[v] = 1;
            basis[o] = timesO;
            basis[u] = p * timesU - lessV - timesO * lessO;
            basis[3 + v] = 0;
            basis[3 + o] = 1;
            basis[3 + u] = -lessO;
            basis[6 + v] = 0;
            basis[6 + o] = 0;
            basis[6 + u] = p;
        }

        /** The number 1 .. P - 1 whose product with one that P does not go into leaves 1. */
        private int inverseOf(int number) {
            int rest = Math.floorMod(number, p);
            int inverse = 1;
            for (int tried = 1; tried < p; tried++) {
                if (tried * rest % p == 1) {
                    inverse = tried;
                }
            }
            return inverse;
        }
    }

    /** The KIN of a form by a prime, with their TURNS and the WAYS between them. */
    private static final class Family {
        private final int[][] members = new int[MOST_KIN][6];
        private final int[] memberTurns = new int[MOST_KIN];
        private final int[][] paths = new int[MOST_KIN][MOST_KIN];
        private int size;
        private boolean many;
        private int foundBy;

        private void begin(Form form, int prime) {
            foundBy = prime;
            many = false;
            size = 0;
            welcome(form.leastNumbers, form.ownTurns);
        }

        /** Finds the NEIGHBOURS of KIN i; those that are new become the next KIN. */
        private void visit(int i, Lines lines, Reducer reducer) {
            lines.find(members[i], foundBy);
            for (int number = 0; number <= foundBy && !many; number++) {
                lines.choose(number);
                lines.cross();
                reducer.settle(lines.crossed);
                int j = placeOf(reducer.best);
                if (j == NONE) {
                    j = welcome(reducer.best, reducer.ties);
                }
                if (j == NONE) {
                    many = true;
                } else {
                    paths[i][j]++;
                }
            }
        }

        /** The number of the next one of the KIN; NONE if there is no room for it. */
        private int welcome(int[] numbers, int turnCount) {
            if (size >= MOST_KIN) {
                return NONE;
            }
            System.arraycopy(numbers, 0, members[size], 0, 6);
            memberTurns[size] = turnCount;
            for (int j = 0; j < MOST_KIN; j++) {
                paths[size][j] = 0;
            }
            size++;
            return size - 1;
        }

        private int placeOf(int[] numbers) {
            for (int i = 0; i < size; i++) {
                if (Six.areAlike(members[i], numbers)) {
                    return i;
                }
            }
            return NONE;
        }

        private long partsOf(int i) {
            return memberTurns[i] > 0 ? PARTS / memberTurns[i] : 0;
        }

        private long partsOfAll() {
            long sum = 0;
            for (int i = 0; i < size; i++) {
                sum += partsOf(i);
            }
            return sum;
        }

        private long partsTaking(int n) {
            long sum = 0;
            for (int i = 0; i < size; i++) {
                sum += partsOf(i) * Taking.timesOf(members[i], n);
            }
            return sum;
        }
    }
}
