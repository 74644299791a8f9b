import java.util.Arrays;

/**
 * A run of calls on one new object, each told by its name and its numbers. Says so if a test
 * goes on behind the 512th call, where answers are free.
 */
public final class Run {
    private static final int MOST_CALLS = 512;

    private final Check check;
    private final KinForms x = new KinForms();
    private int calls;

    public Run(Check check) {
        this.check = check;
    }

    public int calls() {
        return calls;
    }

    /** Calls and holds the answer against the one due. */
    public Run due(long want, String call, int... n) {
        check.due(call + Arrays.toString(n), want, ask(call, n));
        return this;
    }

    public long ask(String call, int... n) {
        calls++;
        if (calls > MOST_CALLS) {
            check.holds("at most " + MOST_CALLS + " calls", false);
        }
        return switch (call) {
            case "form" -> x.form(n[0], n[1], n[2], n[3], n[4], n[5]);
            case "set" -> x.set(n[0], n[1], n[2], n[3], n[4], n[5], n[6]);
            case "drop" -> x.drop();
            case "told" -> x.told(n[0], n[1]);
            case "value" -> x.value(n[0], n[1], n[2], n[3]);
            case "taken" -> x.taken(n[0], n[1]);
            case "least" -> x.least(n[0]);
            case "same" -> x.same(n[0], n[1]);
            case "table" -> x.table(n[0], n[1]);
            case "turns" -> x.turns(n[0], n[1], n[2], n[3], n[4], n[5], n[6], n[7], n[8], n[9], n[10]);
            case "count" -> x.count();
            default -> askNeighbours(call, n);
        };
    }

    private long askNeighbours(String call, int... n) {
        return switch (call) {
            case "prime" -> x.prime(n[0]);
            case "line" -> x.line(n[0], n[1], n[2]);
            case "neighbour" -> x.neighbour(n[0], n[1], n[2]);
            case "kin" -> x.kin(n[0]);
            case "kind" -> x.kind(n[0], n[1], n[2]);
            case "among" -> x.among(n[0], n[1]);
            case "ways" -> x.ways(n[0], n[1], n[2]);
            case "weight" -> x.weight(n[0], n[1]);
            case "mean" -> x.mean(n[0], n[1], n[2]);
            default -> throw new IllegalArgumentException("no call " + call);
        };
    }
}
