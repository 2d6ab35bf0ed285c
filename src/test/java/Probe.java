import java.util.ArrayList;
import java.util.List;

/** A new object and the calls made on it, compared with the answers that are due. */
final class Probe {
    /** The document speaks of no more calls than these on one object. */
    static final int MOST_CALLS = 512;
    private static final int CALLS_SHOWN = 30;

    private final Checks checks;
    private final PersistentBars bars = new PersistentBars();
    private final List<Call> calls = new ArrayList<>();

    Probe(Checks checks) {
        this.checks = checks;
    }

    /** An object to which these pieces have been added. */
    static Probe grown(Checks checks, int... pieces) {
        Probe probe = new Probe(checks);
        for (int i = 0; i < pieces.length; i++) {
            probe.due(i, "add", pieces[i]);
        }
        return probe;
    }

    /** An object to which these pieces have been added, of which only the first n are left. */
    static Probe undone(Checks checks, int n, int... pieces) {
        Probe probe = grown(checks, pieces);
        for (int i = pieces.length - 1; i >= n; i--) {
            probe.due(pieces[i], "undo");
        }
        return probe;
    }

    /** The first n pieces of a growth, as they were put in, and as undo has left them. */
    static Probe[] bothWays(Checks checks, int n, int... pieces) {
        return new Probe[] {grown(checks, Growths.first(n, pieces)), undone(checks, n, pieces)};
    }

    int ask(Call call) {
        if (calls.size() == MOST_CALLS) {
            throw new IllegalStateException("the test makes too many calls on one object");
        }
        calls.add(call);
        return call.on(bars);
    }

    int ask(String method, int... args) {
        return ask(new Call(method, args));
    }

    void due(int want, Call call) {
        int got = ask(call);
        // The label is made only where it is shown: there are millions of calls.
        checks.due(got == want ? "" : label(), got, want);
    }

    void due(int want, String method, int... args) {
        due(want, new Call(method, args));
    }

    private String label() {
        int from = Math.max(0, calls.size() - CALLS_SHOWN);
        StringBuilder label = new StringBuilder(from == 0 ? "" : ".. " + from + " calls more .. ");
        for (Call call : calls.subList(from, calls.size())) {
            label.append(call).append(' ');
        }
        return label.toString().trim();
    }
}
