/** Forms at the edges of what the document tells, for tests of its sentences. */
public final class Known {
    /** One KIN, 48 TURNS, DISC 4. */
    public static final int[] CUBE = {1, 1, 1, 0, 0, 0};

    /** Four KIN by 3 and by 5; 7 goes into DISC, 77. */
    public static final int[] FOUR = {1, 2, 11, 0, 0, 1};

    /** Sixteen KIN by 3, by 5 and by 7; DISC 284. */
    public static final int[] SIXTEEN = {3, 4, 6, 0, 1, 0};

    /** Seventeen KIN by 3, by 5 and by 7, the last of them found only from KIN 15 by 3 and by 5; DISC 806. */
    public static final int[] SEVENTEEN = {6, 7, 6, 5, 2, 3};

    /** 3, 5 and 7 go into DISC, 105. */
    public static final int[] ALL_INTO_DISC = {3, 3, 3, 0, 0, 1};

    /** The least DISC that there is, 2. */
    public static final int[] PACKED = {1, 1, 1, 1, 1, 1};

    public static final int[] PRIMES = {3, 5, 7};

    public static final int MIN = Integer.MIN_VALUE;
    public static final int MAX = Integer.MAX_VALUE;

    private Known() {
    }

    /** A call's numbers: those of the front, then those of the back. */
    public static int[] join(int[] front, int... back) {
        int[] all = java.util.Arrays.copyOf(front, front.length + back.length);
        System.arraycopy(back, 0, all, front.length, back.length);
        return all;
    }

    public static int[] join(int front, int... back) {
        return join(new int[] {front}, back);
    }

    /** The same numbers with another one at a place. */
    public static int[] with(int[] numbers, int place, int number) {
        int[] changed = numbers.clone();
        changed[place] = number;
        return changed;
    }
}
