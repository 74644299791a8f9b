/** The bounds in promises 13 to 21: a test for each sentence, named after it. */
public final class NeighboursBoundsTest {
    private static final Check CHECK = new Check();
    private static final int[] NO_FORM = {-1, 1, 12, Known.MIN, Known.MAX};

    public static void main(String[] args) throws IllegalAccessException {
        CHECK.sentences(NeighboursBoundsTest.class);
        CHECK.end();
    }

    private static Run with(int... numbers) {
        return new Run(CHECK).due(0, "form", numbers);
    }

    private static Run withBy(int p, int... numbers) {
        return with(numbers).due(3, "prime", p);
    }

    /** 105 is DISC, so that P goes into it, whichever it is. */
    private static Run intoDisc(int p) {
        return withBy(p, Known.ALL_INTO_DISC);
    }

    private static Run seventeen(int p) {
        return withBy(p, Known.SEVENTEEN);
    }

    private static Run sixteen(int p) {
        return withBy(p, Known.SIXTEEN);
    }

    // ---- 13: prime

    private static void promise13_PBecomesP_whatItWas() {
        new Run(CHECK).due(3, "prime", 3).due(3, "prime", 5).due(5, "prime", 5).due(5, "prime", 7).due(7, "prime", 7).due(7, "prime", 3).due(3, "prime", 7);
    }

    private static void promise13_OUTSIDE() {
        for (int p : Known.PRIMES) {
            for (int out : new int[] {2, 4, 6, 8, 9, 11, 1, 0, -1, -3, -5, -7, 105, Known.MIN, Known.MAX, 3 + (1 << 16), 7 - (1 << 30)}) {
                new Run(CHECK).due(3, "prime", p).due(KinForms.OUTSIDE, "prime", out).due(p, "prime", 3);
            }
        }
    }

    private static void promise13_PBecomesP_forAllFormsAtOnce() {
        with(Known.CUBE).due(1, "form", Known.FOUR).due(4, "ways", 0, 0, 0).due(4, "kin", 1).due(3, "prime", 5)
            .due(6, "ways", 0, 0, 0).due(2, "ways", 1, 3, 3).due(5, "prime", 7).due(8, "ways", 0, 0, 0).due(KinForms.NOT, "kin", 1)
            .due(7, "prime", 3).due(4, "ways", 0, 0, 0).due(0, "ways", 1, 0, 0);
    }

    // ---- 14: line

    private static void promise14_iIs0ToP() {
        int[][] first = {{1, 0, 1, 0, 0}, {0, 1, 1, 1, 0}, {0, 1, 3, 5, 0}};
        int[][] last = {{1, 1, 1, 0, 1}, {1, 3, 2, 2, 0}, {1, 5, 2, 4, 0}};
        for (int n = 0; n < 3; n++) {
            int p = Known.PRIMES[n];
            Run run = withBy(p, 5, 2, 4, -1, 0, -1);
            for (int what = 0; what < 5; what++) {
                run.due(first[n][what], "line", 0, 0, what).due(last[n][what], "line", 0, p, what);
                for (int i : new int[] {-1, p + 1, 9, Known.MIN, Known.MAX}) {
                    run.due(KinForms.OUTSIDE, "line", 0, i, what);
                }
            }
        }
    }

    private static void promise14_iIs0ToP_whenPChanges() {
        with(Known.CUBE).due(KinForms.OUTSIDE, "line", 0, 4, 0).due(3, "prime", 5).due(1, "line", 0, 4, 0).due(KinForms.OUTSIDE, "line", 0, 6, 0)
            .due(5, "prime", 7).due(1, "line", 0, 6, 0).due(1, "line", 0, 7, 0).due(KinForms.OUTSIDE, "line", 0, 8, 0)
            .due(7, "prime", 3).due(KinForms.OUTSIDE, "line", 0, 4, 0).due(1, "line", 0, 3, 0);
    }

    private static void promise14_what0To4() {
        for (int p : Known.PRIMES) {
            for (int what : new int[] {-1, 5, 6, Known.MIN, Known.MAX}) {
                withBy(p, Known.CUBE).due(KinForms.OUTSIDE, "line", 0, 0, what).due(KinForms.OUTSIDE, "line", 0, p, what);
            }
        }
        // The LINE (0, 0, 1), the first that can be.
        int[] lowest = {0, 0, 1, 2, 1};
        Run run = with(1, 1, 3, 1, 0, 0);
        for (int what = 0; what < 5; what++) {
            run.due(lowest[what], "line", 0, 0, what);
        }
    }

    private static void promise14_NOT_PGoesIntoDISC() {
        for (int p : Known.PRIMES) {
            for (int what = 0; what < 5; what++) {
                intoDisc(p).due(KinForms.NOT, "line", 0, 0, what).due(KinForms.NOT, "line", 0, p, what);
            }
        }
    }

    private static void promise14_UNKNOWNAheadOfOUTSIDEAheadOfNOT() {
        for (int p : Known.PRIMES) {
            for (int k : NO_FORM) {
                intoDisc(p).due(KinForms.UNKNOWN, "line", k, 0, 0).due(KinForms.UNKNOWN, "line", k, p + 1, 0).due(KinForms.UNKNOWN, "line", k, 0, 5);
            }
            intoDisc(p).due(KinForms.OUTSIDE, "line", 0, p + 1, 0).due(KinForms.OUTSIDE, "line", 0, -1, 0)
                .due(KinForms.OUTSIDE, "line", 0, 0, 5).due(KinForms.OUTSIDE, "line", 0, 0, -1);
        }
    }

    private static void promise14_seventeenKinHaveLinesToo() {
        CHECK.holds("no MANY here", seventeen(3).ask("line", 0, 3, 0) == 1 && seventeen(7).ask("neighbour", 0, 7, 0) > 0);
    }

    // ---- 15: neighbour

    private static void promise15_iIs0ToP() {
        int[][] first = {{1, 4, 10, -3, 0, 0}, {2, 4, 5, 0, -1, -1}, {1, 5, 8, -2, -1, 0}};
        int[][] last = {{1, 3, 14, -1, -1, 1}, {1, 5, 8, -1, 0, -1}, {1, 5, 8, -1, 0, -1}};
        for (int n = 0; n < 3; n++) {
            int p = Known.PRIMES[n];
            Run run = withBy(p, 5, 2, 4, -1, 0, -1);
            for (int what = 0; what < 6; what++) {
                run.due(first[n][what], "neighbour", 0, 0, what).due(last[n][what], "neighbour", 0, p, what);
                for (int i : new int[] {-1, p + 1, 9, Known.MIN, Known.MAX}) {
                    run.due(KinForms.OUTSIDE, "neighbour", 0, i, what);
                }
            }
        }
    }

    private static void promise15_aNumber0To5() {
        for (int p : Known.PRIMES) {
            for (int what : new int[] {-1, 6, 7, Known.MIN, Known.MAX}) {
                withBy(p, Known.CUBE).due(KinForms.OUTSIDE, "neighbour", 0, 0, what).due(KinForms.OUTSIDE, "neighbour", 0, p, what);
            }
        }
    }

    private static void promise15_aNumberAbove12IsTold() {
        // A NEIGHBOUR need not keep to the bounds of the FORMS that are made.
        int[] sixth = {1, 1, 38, -1, 0, 0};
        Run run = withBy(7, 5, 2, 4, -1, 0, -1);
        for (int what = 0; what < 6; what++) {
            run.due(sixth[what], "neighbour", 0, 5, what);
        }
    }

    private static void promise15_NOT_PGoesIntoDISC() {
        for (int p : Known.PRIMES) {
            for (int what = 0; what < 6; what++) {
                intoDisc(p).due(KinForms.NOT, "neighbour", 0, 0, what).due(KinForms.NOT, "neighbour", 0, p, what);
            }
        }
    }

    private static void promise15_UNKNOWNAheadOfOUTSIDEAheadOfNOT() {
        for (int p : Known.PRIMES) {
            for (int k : NO_FORM) {
                intoDisc(p).due(KinForms.UNKNOWN, "neighbour", k, 0, 0).due(KinForms.UNKNOWN, "neighbour", k, p + 1, 0).due(KinForms.UNKNOWN, "neighbour", k, 0, 6);
            }
            intoDisc(p).due(KinForms.OUTSIDE, "neighbour", 0, p + 1, 0).due(KinForms.OUTSIDE, "neighbour", 0, -1, 0)
                .due(KinForms.OUTSIDE, "neighbour", 0, 0, 6).due(KinForms.OUTSIDE, "neighbour", 0, 0, -1);
        }
    }

    // ---- 16: kin

    private static void promise16_howManyKin_1To16() {
        for (int p : Known.PRIMES) {
            withBy(p, Known.CUBE).due(1, "kin", 0);
            sixteen(p).due(16, "kin", 0).due(16, "kin", 0);
        }
        with(8, 8, 8, -5, 7, -7).due(15, "kin", 0);
        with(Known.FOUR).due(4, "kin", 0);
    }

    private static void promise16_MANY() {
        for (int p : Known.PRIMES) {
            seventeen(p).due(KinForms.MANY, "kin", 0).due(KinForms.MANY, "kin", 0);
        }
        // Sixteen behind seventeen, and the other way round, in one place.
        with(Known.SEVENTEEN).due(KinForms.MANY, "kin", 0).due(1, "set", Known.join(0, Known.SIXTEEN)).due(16, "kin", 0)
            .due(1, "set", Known.join(0, Known.SEVENTEEN)).due(KinForms.MANY, "kin", 0).due(0, "drop").due(0, "form", Known.SIXTEEN).due(16, "kin", 0);
    }

    private static void promise16_UNKNOWN() {
        new Run(CHECK).due(KinForms.UNKNOWN, "kin", 0);
        for (int k : NO_FORM) {
            with(Known.CUBE).due(KinForms.UNKNOWN, "kin", k);
            intoDisc(3).due(KinForms.UNKNOWN, "kin", k);
            seventeen(3).due(KinForms.UNKNOWN, "kin", k);
        }
    }

    private static void promise16_NOT_PGoesIntoDISC() {
        for (int p : Known.PRIMES) {
            intoDisc(p).due(KinForms.NOT, "kin", 0);
        }
        // More than sixteen by 3 and by 7, and NOT by 5: DISC is 395.
        with(4, 5, 5, 0, 0, 1).due(KinForms.MANY, "kin", 0).due(3, "prime", 5).due(KinForms.NOT, "kin", 0).due(5, "prime", 7).due(KinForms.MANY, "kin", 0);
    }

    // ---- 17: kind

    private static void promise17_kin0ToTheLastOfSixteen() {
        int[][] last = {{4, 5, 6, -5, -4, 4, 4}, {2, 2, 18, -1, -1, 0, 4}, {4, 5, 6, -5, -4, 4, 4}};
        int[] first = {3, 4, 6, 0, -1, 0, 4};
        for (int n = 0; n < 3; n++) {
            Run run = sixteen(Known.PRIMES[n]);
            for (int what = 0; what < 7; what++) {
                run.due(first[what], "kind", 0, 0, what).due(last[n][what], "kind", 0, 15, what).due(KinForms.UNKNOWN, "kind", 0, 16, what);
            }
        }
    }

    private static void promise17_UNKNOWN_alsoKIN() {
        for (int i : new int[] {-1, 1, 2, 15, 16, 17, Known.MIN, Known.MAX}) {
            with(Known.CUBE).due(KinForms.UNKNOWN, "kind", 0, i, 0).due(KinForms.UNKNOWN, "kind", 0, i, 6);
        }
        for (int i : new int[] {-1, 4, 16, Known.MIN, Known.MAX}) {
            // What sixteen others had is not told of four.
            with(Known.SIXTEEN).due(16, "kin", 0).due(1, "set", Known.join(0, Known.FOUR)).due(KinForms.UNKNOWN, "kind", 0, i, 0);
        }
        for (int k : NO_FORM) {
            with(Known.CUBE).due(KinForms.UNKNOWN, "kind", k, 0, 0);
        }
    }

    private static void promise17_what0To6() {
        for (int what : new int[] {-1, 7, 8, Known.MIN, Known.MAX}) {
            with(Known.FOUR).due(KinForms.OUTSIDE, "kind", 0, 0, what).due(KinForms.OUTSIDE, "kind", 0, 3, what);
        }
        with(Known.FOUR).due(1, "kind", 0, 3, 0).due(8, "kind", 0, 3, 6);
    }

    private static void promise17_NOTAheadOfUNKNOWNForKIN() {
        for (int p : Known.PRIMES) {
            for (int i : new int[] {0, -1, 16, 99, Known.MIN, Known.MAX}) {
                intoDisc(p).due(KinForms.NOT, "kind", 0, i, 0).due(KinForms.NOT, "kind", 0, i, 6);
            }
        }
    }

    private static void promise17_MANYAheadOfUNKNOWNForKIN() {
        for (int p : Known.PRIMES) {
            for (int i : new int[] {0, 15, 16, -1, 99, Known.MIN, Known.MAX}) {
                seventeen(p).due(KinForms.MANY, "kind", 0, i, 0).due(KinForms.MANY, "kind", 0, i, 6);
            }
        }
    }

    private static void promise17_UNKNOWNForTheFormAheadOfOUTSIDEAheadOfNOTAndMANY() {
        for (Run run : new Run[] {intoDisc(3), seventeen(3)}) {
            for (int k : NO_FORM) {
                run.due(KinForms.UNKNOWN, "kind", k, 0, 0).due(KinForms.UNKNOWN, "kind", k, 0, 7).due(KinForms.UNKNOWN, "kind", k, 99, -1);
            }
            run.due(KinForms.OUTSIDE, "kind", 0, 0, 7).due(KinForms.OUTSIDE, "kind", 0, 0, -1);
        }
    }

    /** As read from OUTSIDE ahead of NOT and NOT ahead of UNKNOWN for KIN. */
    private static void promise17_OUTSIDEAheadOfUNKNOWNForKIN() {
        with(Known.FOUR).due(KinForms.OUTSIDE, "kind", 0, 4, 7).due(KinForms.OUTSIDE, "kind", 0, -1, -1).due(KinForms.OUTSIDE, "kind", 0, 99, 7);
    }

    // ---- 18: among

    private static void promise18_whichKin_0ToTheLastOfSixteen() {
        for (int p : Known.PRIMES) {
            Run run = sixteen(p).due(0, "among", 0, 0);
            for (int i = 0; i < 16; i++) {
                int[] one = new int[6];
                for (int what = 0; what < 6; what++) {
                    one[what] = (int) run.ask("kind", 0, i, what);
                }
                // Those with a number above 12 are no FORMS that can be made.
                if (one[2] <= 12) {
                    run.due(1, "form", one).due(i, "among", 0, 1).due(1, "drop");
                }
            }
        }
        with(Known.SIXTEEN).due(1, "form", 4, 5, 6, -5, -4, 4).due(15, "among", 0, 1).due(16, "kin", 1).due(0, "among", 1, 1);
    }

    private static void promise18_NONE() {
        with(Known.SIXTEEN).due(1, "form", Known.CUBE).due(KinForms.NONE, "among", 0, 1).due(KinForms.NONE, "among", 1, 0);
        // The same DISC, and no KIN.
        with(Known.FOUR).due(1, "form", 2, 3, 4, -1, -1, 2).due(77, "told", 1, 6).due(KinForms.NONE, "among", 0, 1).due(KinForms.NONE, "among", 1, 0);
    }

    private static void promise18_UNKNOWN() {
        new Run(CHECK).due(KinForms.UNKNOWN, "among", 0, 0);
        for (int k : NO_FORM) {
            with(Known.CUBE).due(KinForms.UNKNOWN, "among", k, 0).due(KinForms.UNKNOWN, "among", 0, k).due(KinForms.UNKNOWN, "among", k, k);
        }
    }

    private static void promise18_NOT_ofFormKAlone() {
        for (int p : Known.PRIMES) {
            intoDisc(p).due(KinForms.NOT, "among", 0, 0).due(1, "form", Known.CUBE).due(KinForms.NOT, "among", 0, 1).due(KinForms.NONE, "among", 1, 0);
        }
    }

    private static void promise18_MANY_ofFormKAlone() {
        for (int p : Known.PRIMES) {
            seventeen(p).due(KinForms.MANY, "among", 0, 0).due(1, "form", Known.CUBE).due(KinForms.MANY, "among", 0, 1).due(KinForms.NONE, "among", 1, 0);
        }
    }

    private static void promise18_UNKNOWNAheadOfNOTAndMANY() {
        for (Run run : new Run[] {intoDisc(3), seventeen(3)}) {
            for (int j : NO_FORM) {
                run.due(KinForms.UNKNOWN, "among", 0, j).due(KinForms.UNKNOWN, "among", j, 0);
            }
        }
    }

    // ---- 19: ways

    private static void promise19_fromAndToTheLastOfSixteen() {
        int[][] from = {
            {0, 0, 0, 0, 0, 0, 0, 2, 0, 0, 0, 0, 0, 1, 1, 0}, {0, 0, 0, 0, 0, 0, 0, 2, 0, 0, 0, 0, 1, 1, 0, 2}, {0, 0, 0, 0, 0, 0, 2, 0, 0, 2, 0, 0, 2, 2, 0, 0}
        };
        int[][] to = {
            {0, 0, 0, 0, 0, 0, 0, 1, 0, 0, 0, 0, 0, 1, 1, 0}, {0, 0, 0, 0, 0, 0, 0, 2, 0, 0, 0, 0, 1, 1, 0, 2}, {0, 0, 0, 0, 0, 0, 1, 0, 0, 2, 0, 0, 2, 1, 0, 0}
        };
        for (int n = 0; n < 3; n++) {
            Run run = sixteen(Known.PRIMES[n]);
            for (int j = 0; j < 16; j++) {
                run.due(from[n][j], "ways", 0, 15, j).due(to[n][j], "ways", 0, j, 15);
                run.due(KinForms.UNKNOWN, "ways", 0, 16, j).due(KinForms.UNKNOWN, "ways", 0, j, 16);
            }
        }
    }

    private static void promise19_UNKNOWN_alsoKIN() {
        for (int i : new int[] {-1, 4, 15, 16, Known.MIN, Known.MAX}) {
            with(Known.FOUR).due(KinForms.UNKNOWN, "ways", 0, i, 0).due(KinForms.UNKNOWN, "ways", 0, 0, i).due(KinForms.UNKNOWN, "ways", 0, i, i);
            with(Known.SIXTEEN).due(16, "kin", 0).due(1, "set", Known.join(0, Known.FOUR)).due(KinForms.UNKNOWN, "ways", 0, i, 0).due(KinForms.UNKNOWN, "ways", 0, 3, i);
        }
        with(Known.FOUR).due(2, "ways", 0, 3, 3);
        for (int k : NO_FORM) {
            with(Known.FOUR).due(KinForms.UNKNOWN, "ways", k, 0, 0);
        }
    }

    private static void promise19_NOTAndMANYAheadOfUNKNOWNForKIN() {
        for (int p : Known.PRIMES) {
            for (int i : new int[] {0, -1, 15, 16, 99, Known.MIN, Known.MAX}) {
                intoDisc(p).due(KinForms.NOT, "ways", 0, i, 0).due(KinForms.NOT, "ways", 0, 0, i).due(KinForms.NOT, "ways", 0, i, i);
                seventeen(p).due(KinForms.MANY, "ways", 0, i, 0).due(KinForms.MANY, "ways", 0, 0, i).due(KinForms.MANY, "ways", 0, i, i);
            }
        }
    }

    private static void promise19_UNKNOWNForTheFormAheadOfNOTAndMANY() {
        for (Run run : new Run[] {intoDisc(3), seventeen(3)}) {
            for (int k : NO_FORM) {
                run.due(KinForms.UNKNOWN, "ways", k, 0, 0).due(KinForms.UNKNOWN, "ways", k, 99, -1);
            }
        }
    }

    // ---- 20: weight

    private static void promise20_inLeastTerms_fromOneOf48ToSixteenKin() {
        for (int p : Known.PRIMES) {
            withBy(p, Known.CUBE).due(1, "weight", 0, 0).due(48, "weight", 0, 1);
            sixteen(p).due(35, "weight", 0, 0).due(8, "weight", 0, 1);
        }
        with(Known.PACKED).due(1, "weight", 0, 0).due(48, "weight", 0, 1);
    }

    private static void promise20_inLeastTerms_whole() {
        with(3, 4, 2, -2, -1, 0).due(3, "kin", 0).due(1, "weight", 0, 0).due(1, "weight", 0, 1);
        with(6, 5, 2, 0, -3, 1).due(9, "kin", 0).due(4, "weight", 0, 0).due(1, "weight", 0, 1);
    }

    private static void promise20_what0Or1() {
        for (int what : new int[] {-1, 2, Known.MIN, Known.MAX}) {
            with(Known.FOUR).due(KinForms.OUTSIDE, "weight", 0, what);
        }
    }

    private static void promise20_UNKNOWNAheadOfOUTSIDEAheadOfNOTAndMANY() {
        for (Run run : new Run[] {intoDisc(3), seventeen(3), with(Known.FOUR)}) {
            for (int k : NO_FORM) {
                run.due(KinForms.UNKNOWN, "weight", k, 0).due(KinForms.UNKNOWN, "weight", k, 2).due(KinForms.UNKNOWN, "weight", k, -1);
            }
            run.due(KinForms.OUTSIDE, "weight", 0, 2).due(KinForms.OUTSIDE, "weight", 0, -1);
        }
    }

    private static void promise20_NOTAndMANY() {
        for (int p : Known.PRIMES) {
            intoDisc(p).due(KinForms.NOT, "weight", 0, 0).due(KinForms.NOT, "weight", 0, 1);
            seventeen(p).due(KinForms.MANY, "weight", 0, 0).due(KinForms.MANY, "weight", 0, 1);
        }
    }

    // ---- 21: mean

    private static void promise21_nIs0To100() {
        for (int p : Known.PRIMES) {
            sixteen(p).due(1, "mean", 0, 0, 0).due(1, "mean", 0, 0, 1).due(2, "mean", 0, 1, 0).due(5, "mean", 0, 1, 1)
                .due(40, "mean", 0, 99, 0).due(7, "mean", 0, 99, 1).due(20, "mean", 0, 100, 0).due(1, "mean", 0, 100, 1);
            for (int n : new int[] {-1, 101, Known.MIN, Known.MAX}) {
                sixteen(p).due(KinForms.OUTSIDE, "mean", 0, n, 0).due(KinForms.OUTSIDE, "mean", 0, n, 1);
            }
        }
    }

    private static void promise21_likewise_neverTakenIs0Of1() {
        with(Known.CUBE).due(0, "mean", 0, 7, 0).due(1, "mean", 0, 7, 1).due(0, "mean", 0, 92, 0).due(1, "mean", 0, 92, 1);
        withBy(5, 12, 12, 12, 0, 0, 0).due(0, "mean", 0, 100, 0).due(1, "mean", 0, 100, 1);
    }

    private static void promise21_likewise_what0Or1() {
        for (int what : new int[] {-1, 2, Known.MIN, Known.MAX}) {
            with(Known.FOUR).due(KinForms.OUTSIDE, "mean", 0, 0, what).due(KinForms.OUTSIDE, "mean", 0, 100, what).due(KinForms.OUTSIDE, "mean", 0, 101, what);
        }
    }

    private static void promise21_UNKNOWNAheadOfOUTSIDEAheadOfNOTAndMANY() {
        for (Run run : new Run[] {intoDisc(3), seventeen(3), with(Known.FOUR)}) {
            for (int k : NO_FORM) {
                run.due(KinForms.UNKNOWN, "mean", k, 0, 0).due(KinForms.UNKNOWN, "mean", k, 101, 0).due(KinForms.UNKNOWN, "mean", k, 0, 2);
            }
            run.due(KinForms.OUTSIDE, "mean", 0, 101, 0).due(KinForms.OUTSIDE, "mean", 0, -1, 0).due(KinForms.OUTSIDE, "mean", 0, 0, 2).due(KinForms.OUTSIDE, "mean", 0, 0, -1);
        }
    }

    private static void promise21_NOTAndMANY() {
        for (int p : Known.PRIMES) {
            intoDisc(p).due(KinForms.NOT, "mean", 0, 0, 0).due(KinForms.NOT, "mean", 0, 100, 1);
            seventeen(p).due(KinForms.MANY, "mean", 0, 0, 0).due(KinForms.MANY, "mean", 0, 100, 1);
        }
    }
}
