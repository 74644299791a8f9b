import java.util.ArrayList;
import java.util.Arrays;
import java.util.List;
import java.util.function.Consumer;

/** The bounds in 'What it is' and 'Terms': a test for each sentence, named after it. */
public final class TermsBoundsTest {
    private static final Check CHECK = new Check();
    private static final int[] UNIT = {1, 0, 0, 0, 1, 0, 0, 0, 1};

    /** A call that is refused, with what it answers. */
    private record Refused(long answer, String call, int... n) {
    }

    public static void main(String[] args) throws IllegalAccessException {
        CHECK.sentences(TermsBoundsTest.class);
        CHECK.end();
    }

    private static Run with(int[]... forms) {
        Run run = new Run(CHECK);
        for (int k = 0; k < forms.length; k++) {
            run.due(k, "form", forms[k]);
        }
        return run;
    }

    private static Run withTwelve() {
        Run run = new Run(CHECK);
        for (int k = 0; k < 12; k++) {
            run.due(k, "form", 1, 1, k + 1, 0, 0, 0);
        }
        return run;
    }

    // ---- What it is

    private static void whatItIs_atMost512Calls_theLastIsAnsweredToo() {
        Run run = with(Known.SIXTEEN, Known.SEVENTEEN, Known.CUBE);
        int p = 3;
        while (run.calls() < 508) {
            int next = p == 7 ? 3 : p + 2;
            run.due(p, "prime", next).due(16, "kin", 0).due(KinForms.MANY, "kin", 1).due(1, "kin", 2);
            p = next;
        }
        while (run.calls() < 511) {
            run.due(3, "count");
        }
        run.due(8, "weight", 0, 1);
        CHECK.due("calls made", 512, run.calls());
    }

    private static void whatItIs_atMost512Calls_formsMadeAndDropped() {
        Run run = new Run(CHECK);
        for (int round = 0; round < 256; round++) {
            run.due(0, "form", 1, 1, 1 + round % 12, 0, 0, 0).due(0, "drop");
        }
        CHECK.due("calls made", 512, run.calls());
    }

    // ---- Terms: numbers

    private static void terms_whatHasANumberHasItFrom0On() {
        with(Known.FOUR).due(1, "told", 0, 0).due(KinForms.UNKNOWN, "told", -1, 0)
            .due(1, "line", 0, 0, 0).due(KinForms.OUTSIDE, "line", 0, -1, 0)
            .due(3, "neighbour", 0, 0, 0).due(KinForms.OUTSIDE, "neighbour", 0, -1, 0)
            .due(1, "kind", 0, 0, 0).due(KinForms.UNKNOWN, "kind", 0, -1, 0)
            .due(0, "ways", 0, 0, 0).due(KinForms.UNKNOWN, "ways", 0, -1, 0).due(KinForms.UNKNOWN, "ways", 0, 0, -1)
            .due(0, "among", 0, 0);
    }

    private static void terms_NONEIsMinus1() {
        CHECK.due("NONE", -1, KinForms.NONE);
        with(Known.FOUR, Known.CUBE).due(-1, "among", 0, 1);
    }

    // ---- Terms: UNKNOWN

    /** Every call that names a FORM, with a FORM k that there is not; other is one that there is or not. */
    private static List<Refused> callsOf(int k, int other) {
        List<Refused> calls = new ArrayList<>();
        long u = KinForms.UNKNOWN;
        calls.add(new Refused(u, "set", Known.join(k, Known.CUBE)));
        calls.add(new Refused(u, "told", k, 0));
        calls.add(new Refused(u, "value", k, 0, 0, 0));
        calls.add(new Refused(u, "taken", k, 0));
        calls.add(new Refused(u, "least", k));
        calls.add(new Refused(u, "same", k, other));
        calls.add(new Refused(u, "same", other, k));
        calls.add(new Refused(u, "same", k, k));
        calls.add(new Refused(u, "table", k, 0));
        calls.add(new Refused(u, "turns", Known.join(new int[] {k, other}, UNIT)));
        calls.add(new Refused(u, "turns", Known.join(new int[] {other, k}, UNIT)));
        calls.add(new Refused(u, "turns", Known.join(new int[] {k, k}, UNIT)));
        calls.add(new Refused(u, "line", k, 0, 0));
        calls.add(new Refused(u, "neighbour", k, 0, 0));
        calls.add(new Refused(u, "kin", k));
        calls.add(new Refused(u, "kind", k, 0, 0));
        calls.add(new Refused(u, "among", k, other));
        calls.add(new Refused(u, "among", other, k));
        calls.add(new Refused(u, "among", k, k));
        calls.add(new Refused(u, "ways", k, 0, 0));
        calls.add(new Refused(u, "weight", k, 0));
        calls.add(new Refused(u, "mean", k, 0, 0));
        return calls;
    }

    private static void dueAll(Run run, List<Refused> calls) {
        for (Refused one : calls) {
            run.due(one.answer(), one.call(), one.n());
        }
    }

    private static void terms_UNKNOWN_aFormThatThereIsNot_noFormHeld() {
        for (int k : new int[] {-1, 0, 1, 11, 12, Known.MIN, Known.MAX}) {
            dueAll(new Run(CHECK), callsOf(k, 0));
        }
    }

    private static void terms_UNKNOWN_aFormThatThereIsNot_oneFormHeld() {
        for (int k : new int[] {-1, 1, 2, 11, 12, Known.MIN, Known.MAX}) {
            dueAll(with(Known.CUBE), callsOf(k, 0));
        }
    }

    private static void terms_UNKNOWN_aFormThatThereIsNot_twelveFormsHeld() {
        for (int k : new int[] {-1, 12, 13, Known.MIN, Known.MAX}) {
            dueAll(withTwelve(), callsOf(k, 11));
        }
        withTwelve().due(12, "told", 11, 2).due(1, "told", 0, 2);
    }

    private static void terms_UNKNOWN_aFormThatThereIsNot_dropped() {
        Run run = with(Known.CUBE, Known.FOUR);
        run.due(4, "kin", 1).due(1, "drop");
        dueAll(run, callsOf(1, 0));
        Run none = with(Known.CUBE);
        none.due(1, "kin", 0).due(0, "drop");
        dueAll(none, callsOf(0, 0));
    }

    private static void terms_UNKNOWN_KINThatThereIsNot() {
        Run run = with(Known.CUBE, Known.FOUR, Known.SIXTEEN);
        int[] sizes = {1, 4, 16};
        for (int k = 0; k < 3; k++) {
            for (int i : new int[] {-1, sizes[k], sizes[k] + 1, 16, 17, Known.MIN, Known.MAX}) {
                run.due(KinForms.UNKNOWN, "kind", k, i, 0).due(KinForms.UNKNOWN, "kind", k, i, 6);
                run.due(KinForms.UNKNOWN, "ways", k, i, 0).due(KinForms.UNKNOWN, "ways", k, 0, i).due(KinForms.UNKNOWN, "ways", k, i, i);
            }
            int last = sizes[k] - 1;
            CHECK.holds("the last KIN is there", run.ask("kind", k, last, 6) >= 2 && run.ask("ways", k, last, last) >= 0);
        }
    }

    // ---- Terms: the order of refusals

    private static void terms_order_UNKNOWNAheadOfOUTSIDE() {
        with(Known.CUBE).due(KinForms.UNKNOWN, "set", 1, 0, 1, 1, 0, 0, 0).due(KinForms.UNKNOWN, "set", -1, 1, 1, 1, 2, 0, 0)
            .due(KinForms.UNKNOWN, "told", 1, 14).due(KinForms.UNKNOWN, "told", -1, -1)
            .due(KinForms.UNKNOWN, "value", 1, 1001, 0, 0).due(KinForms.UNKNOWN, "value", 1, 0, -1001, 0).due(KinForms.UNKNOWN, "value", 1, 0, 0, 1001)
            .due(KinForms.UNKNOWN, "taken", 1, 101).due(KinForms.UNKNOWN, "taken", 1, -1)
            .due(KinForms.UNKNOWN, "table", 1, 9).due(KinForms.UNKNOWN, "table", 1, -1)
            .due(KinForms.UNKNOWN, "turns", 1, 0, 21, 0, 0, 0, 1, 0, 0, 0, 1).due(KinForms.UNKNOWN, "turns", 0, 1, 1, 0, 0, 0, 1, 0, 0, 0, -21)
            .due(KinForms.UNKNOWN, "line", 1, 4, 0).due(KinForms.UNKNOWN, "line", 1, 0, 5).due(KinForms.UNKNOWN, "line", 1, -1, -1)
            .due(KinForms.UNKNOWN, "neighbour", 1, 4, 0).due(KinForms.UNKNOWN, "neighbour", 1, 0, 6).due(KinForms.UNKNOWN, "neighbour", 1, -1, -1)
            .due(KinForms.UNKNOWN, "kind", 1, 0, 7).due(KinForms.UNKNOWN, "kind", 1, 0, -1)
            .due(KinForms.UNKNOWN, "weight", 1, 2).due(KinForms.UNKNOWN, "weight", 1, -1)
            .due(KinForms.UNKNOWN, "mean", 1, 101, 0).due(KinForms.UNKNOWN, "mean", 1, 0, 2).due(KinForms.UNKNOWN, "mean", 1, -1, -1);
    }

    private static void terms_order_UNKNOWNAheadOfNOT() {
        Run run = with(Known.FOUR, Known.FOUR);
        run.due(3, "prime", 7).due(KinForms.NOT, "kin", 0).due(KinForms.NOT, "kin", 1).due(1, "drop");
        // among alone can have a FORM with such a DISC and one that there is not.
        run.due(KinForms.UNKNOWN, "among", 0, 1).due(KinForms.UNKNOWN, "among", 1, 0);
        for (String call : new String[] {"line", "neighbour", "kind", "ways", "mean"}) {
            run.due(KinForms.UNKNOWN, call, 1, 0, 0).due(KinForms.NOT, call, 0, 0, 0);
        }
        run.due(KinForms.UNKNOWN, "kin", 1).due(KinForms.UNKNOWN, "weight", 1, 0);
    }

    private static void terms_order_UNKNOWNFormAheadOfMANY() {
        Run run = with(Known.SEVENTEEN, Known.SEVENTEEN);
        run.due(KinForms.MANY, "kin", 0).due(KinForms.MANY, "kin", 1).due(1, "drop");
        run.due(KinForms.UNKNOWN, "among", 0, 1).due(KinForms.UNKNOWN, "among", 1, 0);
        for (String call : new String[] {"kind", "ways", "mean"}) {
            run.due(KinForms.UNKNOWN, call, 1, 0, 0).due(KinForms.MANY, call, 0, 0, 0);
        }
        run.due(KinForms.UNKNOWN, "kin", 1).due(KinForms.UNKNOWN, "weight", 1, 0);
    }

    private static void terms_order_OUTSIDEAheadOfNOT() {
        Run run = with(Known.FOUR);
        run.due(3, "prime", 7).due(KinForms.NOT, "kin", 0);
        dueOutside(run);
        run.due(KinForms.OUTSIDE, "line", 0, 8, 0).due(KinForms.OUTSIDE, "line", 0, -1, 0).due(KinForms.OUTSIDE, "line", 0, 0, 5).due(KinForms.OUTSIDE, "line", 0, 0, -1)
            .due(KinForms.OUTSIDE, "neighbour", 0, 8, 0).due(KinForms.OUTSIDE, "neighbour", 0, -1, 0)
            .due(KinForms.OUTSIDE, "neighbour", 0, 0, 6).due(KinForms.OUTSIDE, "neighbour", 0, 0, -1);
    }

    private static void terms_order_OUTSIDEAheadOfMANY() {
        Run run = with(Known.SEVENTEEN);
        run.due(KinForms.MANY, "kin", 0);
        dueOutside(run);
    }

    private static void dueOutside(Run run) {
        run.due(KinForms.OUTSIDE, "kind", 0, 0, 7).due(KinForms.OUTSIDE, "kind", 0, 0, -1)
            .due(KinForms.OUTSIDE, "weight", 0, 2).due(KinForms.OUTSIDE, "weight", 0, -1)
            .due(KinForms.OUTSIDE, "mean", 0, 101, 0).due(KinForms.OUTSIDE, "mean", 0, -1, 0)
            .due(KinForms.OUTSIDE, "mean", 0, 0, 2).due(KinForms.OUTSIDE, "mean", 0, 0, -1);
    }

    private static void terms_order_OUTSIDEAheadOfFULL() {
        withTwelve().due(KinForms.FULL, "form", Known.CUBE).due(KinForms.OUTSIDE, "form", 0, 1, 1, 0, 0, 0)
            .due(KinForms.OUTSIDE, "form", 13, 1, 1, 0, 0, 0).due(KinForms.OUTSIDE, "form", 1, 1, 1, 2, 0, 0);
    }

    private static void terms_order_ofThreeTheFirst() {
        Run run = with(Known.FOUR);
        run.due(3, "prime", 7).due(KinForms.UNKNOWN, "kind", 1, 99, 7).due(KinForms.OUTSIDE, "kind", 0, 99, 7)
            .due(KinForms.NOT, "kind", 0, 99, 6).due(KinForms.NOT, "ways", 0, 99, 99);
        with(Known.SEVENTEEN).due(KinForms.UNKNOWN, "kind", 1, 99, 7).due(KinForms.OUTSIDE, "kind", 0, 99, 7).due(KinForms.MANY, "kind", 0, 99, 6);
    }

    // ---- Terms: what is refused changes nothing

    /** All that a run can tell of its state, for up to twelve FORMS in fewer than 400 calls. */
    private static long[] stateOf(Run run) {
        List<Long> state = new ArrayList<>();
        long count = run.ask("count");
        state.add(count);
        for (int k = 0; k < count; k++) {
            for (int what = 0; what < 14; what++) {
                state.add(run.ask("told", k, what));
            }
            for (int place = 0; place < 9; place++) {
                state.add(run.ask("table", k, place));
            }
            state.add(run.ask("kin", k));
            state.add(run.ask("kind", k, 0, 0));
            state.add(run.ask("kind", k, 3, 2));
            state.add(run.ask("ways", k, 0, 1));
            state.add(run.ask("weight", k, 0));
            state.add(run.ask("line", k, 3, 3));
            state.add(run.ask("neighbour", k, 3, 2));
        }
        state.add(run.ask("prime", 3));
        state.add(run.ask("form", 5, 7, 9, 2, 3, -4));
        state.add(run.ask("count"));
        return state.stream().mapToLong(n -> n).toArray();
    }

    /** A refused call between two others, against a run that is without it. */
    private static void changesNothing(Consumer<Run> setting, Refused... calls) {
        Run without = new Run(CHECK);
        setting.accept(without);
        long[] want = stateOf(without);
        for (Refused one : calls) {
            Run run = new Run(CHECK);
            setting.accept(run);
            run.due(one.answer(), one.call(), one.n());
            CHECK.holds("nothing changes by " + one.call() + Arrays.toString(one.n()), Arrays.equals(want, stateOf(run)));
        }
    }

    private static Refused outside(String call, int... n) {
        return new Refused(KinForms.OUTSIDE, call, n);
    }

    private static Refused unknown(String call, int... n) {
        return new Refused(KinForms.UNKNOWN, call, n);
    }

    private static Refused not(String call, int... n) {
        return new Refused(KinForms.NOT, call, n);
    }

    private static Refused many(String call, int... n) {
        return new Refused(KinForms.MANY, call, n);
    }

    private static void terms_whatIsRefusedChangesNothing_noFormHeld() {
        Consumer<Run> none = run -> { };
        changesNothing(none, not("drop"), outside("form", 0, 1, 1, 0, 0, 0), outside("form", 1, 1, 1, 2, 0, 0),
            outside("prime", 4), outside("prime", 9), unknown("set", 0, 1, 1, 1, 0, 0, 0));
        changesNothing(none, callsOf(0, 0).toArray(new Refused[0]));
        new Run(CHECK).due(KinForms.NOT, "drop").due(KinForms.NOT, "drop").due(0, "form", Known.CUBE).due(0, "drop");
    }

    private static void terms_whatIsRefusedChangesNothing_someFormsHeld() {
        for (int p : Known.PRIMES) {
            Consumer<Run> some = run -> {
                run.ask("form", Known.FOUR);
                run.ask("form", Known.SEVENTEEN);
                run.ask("form", Known.CUBE);
                run.ask("prime", p);
                run.ask("kin", 0);
                run.ask("kin", 2);
            };
            changesNothing(some, callsOf(3, 0).toArray(new Refused[0]));
            changesNothing(some, callsOf(-1, 2).toArray(new Refused[0]));
            changesNothing(some, outside("form", 0, 1, 1, 0, 0, 0), outside("form", 1, 1, 1, 2, 0, 0), outside("form", 12, 12, 12, 0, 0, 13),
                outside("set", 0, 0, 1, 1, 0, 0, 0), outside("set", 2, 13, 1, 1, 0, 0, 0), outside("set", 0, 1, 1, 1, 3, -3, -3), outside("set", 1, 1, 1, 1, 2, 0, 0),
                outside("told", 0, 14), outside("value", 0, 0, 0, 1001), outside("taken", 0, 101), outside("table", 0, 9),
                outside("turns", 0, 0, 1, 0, 0, 0, 1, 0, 0, 0, 21),
                outside("prime", 2), outside("prime", 9), outside("prime", 0),
                outside("line", 2, p + 1, 0), outside("line", 2, 0, 5), outside("neighbour", 2, p + 1, 0), outside("neighbour", 2, 0, 6),
                unknown("kind", 2, 1, 0), outside("kind", 2, 0, 7), unknown("ways", 2, 1, 0), unknown("ways", 2, 0, 1),
                outside("weight", 2, 2), outside("mean", 2, 101, 0), outside("mean", 2, 0, 2),
                many("kin", 1), many("kind", 1, 0, 0), many("among", 1, 1), many("ways", 1, 0, 0), many("weight", 1, 0), many("mean", 1, 0, 0));
        }
    }

    private static void terms_whatIsRefusedChangesNothing_PGoesIntoDISC() {
        Consumer<Run> into = run -> {
            run.ask("form", Known.FOUR);
            run.ask("kin", 0);
            run.ask("prime", 7);
        };
        changesNothing(into, not("line", 0, 0, 0), not("neighbour", 0, 0, 0), not("kin", 0), not("kind", 0, 0, 0),
            not("among", 0, 0), not("ways", 0, 0, 0), not("weight", 0, 0), not("mean", 0, 0, 0));
        // What was found by 3 stands when P is 3 again.
        with(Known.FOUR).due(4, "kin", 0).due(3, "prime", 7).due(KinForms.NOT, "kin", 0).due(7, "prime", 3)
            .due(4, "kin", 0).due(7, "kind", 0, 3, 2).due(3, "weight", 0, 0).due(2, "ways", 0, 0, 1);
    }

    private static void terms_whatIsRefusedChangesNothing_twelveFormsHeld() {
        Consumer<Run> full = run -> {
            for (int k = 0; k < 12; k++) {
                run.ask("form", 1, 1, k + 1, 0, 0, 0);
            }
        };
        changesNothing(full, new Refused(KinForms.FULL, "form", Known.CUBE), new Refused(KinForms.FULL, "form", Known.SEVENTEEN),
            outside("form", 0, 1, 1, 0, 0, 0), outside("form", 12, 12, 12, -12, -12, -12), outside("set", 11, 12, 12, 12, -12, -12, -12),
            unknown("set", 12, 1, 1, 1, 0, 0, 0));
    }
}
