import java.util.ArrayList;
import java.util.List;

/**
 * After a question or a refused call an object answers every call as a twin does to which that
 * call was not made. All answers do not fit into the calls of one object, so they are asked in
 * batches, each of a new object.
 */
public final class NothingChangesTest {
    private static final int[] NO_PIECES = {
        Ints.LOW, -1, 0, 31, 47, 55, 59, 61, 62, 63, 64, 65, Ints.HIGH
    };

    private static final List<String> CHANGES = List.of("add", "fill", "undo");

    private static final Checks CHECKS = new Checks();

    public static void main(String[] args) {
        List<List<Call>> histories = histories();
        CHECKS.sentence("Terms", "No question changes anything.");
        for (List<Call> history : histories) {
            questionsChangeNothing(history);
        }
        CHECKS.sentence("Terms", "A refused call changes nothing.");
        refusedChangesOfTheEmpty();
        refusedChangesOfTheFull();
        for (List<Call> history : histories) {
            refusedChangesChangeNothing(history);
        }
        CHECKS.end();
    }

    /** Ways to the growths that are looked at: empty, of one piece, ordinary, undone, nearly full and full. */
    private static List<List<Call>> histories() {
        List<List<Call>> histories = new ArrayList<>();
        histories.add(List.of());
        histories.add(additions(32));
        histories.add(additions(Growths.POINTS));
        histories.add(additions(Growths.SQUARE));
        histories.add(additions(Growths.HOLLOW));
        histories.add(undone(additions(Growths.SQUARE), 2));
        histories.add(undone(additions(Growths.FULL), Growths.MOST));
        histories.add(undone(additions(Growths.FULL), 1));
        // There is room, but not for all that some fills would put in, whichever comes first of it.
        histories.add(additions(Growths.first(15, Growths.FULL)));
        histories.add(additions(4, 8, 12, 16, 20, 24, 28, 32, 36, 40, 44, 48, 52, 56, 60));
        histories.add(additions(Growths.first(24, Growths.FIVE_POINTS)));
        histories.add(additions(Growths.first(25, Growths.FIVE_POINTS)));
        for (int[] full : Growths.FULL_ONES) {
            histories.add(additions(full));
        }
        return histories;
    }

    private static List<Call> additions(int... pieces) {
        List<Call> calls = new ArrayList<>();
        for (int piece : pieces) {
            calls.add(new Call("add", piece));
        }
        return calls;
    }

    private static List<Call> undone(List<Call> history, int times) {
        List<Call> calls = new ArrayList<>(history);
        for (int i = 0; i < times; i++) {
            calls.add(new Call("undo"));
        }
        return calls;
    }

    private static Probe after(List<Call> history) {
        Probe probe = new Probe(CHECKS);
        for (Call call : history) {
            probe.ask(call);
        }
        return probe;
    }

    /** The pieces that a history leaves, as the document says: each add and undo here succeeds. */
    private static List<Integer> growthAfter(List<Call> history) {
        List<Integer> growth = new ArrayList<>();
        for (Call call : history) {
            if (call.method().equals("undo")) {
                growth.remove(growth.size() - 1);
            } else {
                growth.add(call.args()[0]);
            }
        }
        return growth;
    }

    private static void questionsChangeNothing(List<Call> history) {
        List<Integer> growth = growthAfter(history);
        List<Batch> batches = batches(history, growth);
        for (Call question : questions(growth.size())) {
            for (Batch batch : batches) {
                Probe probe = after(history);
                // A question that is asked again right away has its answer again.
                probe.due(probe.ask(question), question);
                batch.compare(probe);
            }
        }
    }

    private static void refusedChangesChangeNothing(List<Call> history) {
        List<Integer> growth = growthAfter(history);
        List<Batch> batches = batches(history, growth);
        for (int piece : NO_PIECES) {
            changesNothing(history, batches, -1, new Call("add", piece));
            changesNothing(history, batches, -1, new Call("fill", piece));
        }
        for (int piece : Growths.allPieces()) {
            int want = addAnswer(growth, piece);
            if (want < 0) {
                changesNothing(history, batches, want, new Call("add", piece));
            }
            int missing = missingWithin(growth, piece);
            if (growth.size() + missing > Growths.MOST) {
                changesNothing(history, batches, -2, new Call("fill", piece));
            } else if (missing == 0) {
                changesNothing(history, batches, growth.size(), new Call("fill", piece));
            }
        }
        if (growth.isEmpty()) {
            changesNothing(history, batches, -1, new Call("undo"));
        }
    }

    private static int addAnswer(List<Integer> growth, int piece) {
        if (growth.contains(piece)) {
            return -2;
        }
        if (!growth.containsAll(Growths.sides(piece))) {
            return -3;
        }
        return growth.size() == Growths.MOST ? -4 : growth.size();
    }

    private static int missingWithin(List<Integer> growth, int piece) {
        int missing = 0;
        for (int set = 1; set <= piece; set++) {
            if ((set | piece) == piece && !growth.contains(set)) {
                missing++;
            }
        }
        return missing;
    }

    private static void changesNothing(List<Call> history, List<Batch> batches, int want, Call call) {
        for (Batch batch : batches) {
            Probe probe = after(history);
            probe.due(want, call);
            batch.compare(probe);
        }
    }

    /** Answers worked out by hand, without a twin. */
    private static void refusedChangesOfTheEmpty() {
        Probe probe = new Probe(CHECKS);
        probe.due(-1, "undo");
        probe.due(-3, "add", 3);
        probe.due(-1, "add", 63);
        probe.due(-1, "fill", 0);
        probe.due(0, "size");
        probe.due(-1, "piece", 0);
        probe.due(0, "add", 1);
        probe.due(1, "size");
    }

    private static void refusedChangesOfTheFull() {
        Probe probe = Probe.grown(CHECKS, Growths.FULL);
        probe.due(-4, "add", 19);
        probe.due(-2, "fill", 51);
        probe.due(-2, "add", 48);
        probe.due(-3, "add", 51);
        probe.due(26, "size");
        for (int i = 0; i < Growths.MOST; i++) {
            probe.due(Growths.FULL[i], "piece", i);
            probe.due(Growths.FULL_PARTNERS[i], "partner", i);
        }
        probe.due(48, "undo");
        probe.due(40, "undo");
    }

    /** Questions with arguments at the ends of their ranges and beyond, for a growth of n pieces. */
    private static List<Call> questions(int n) {
        List<Call> calls = new ArrayList<>();
        int[] numbers = {Ints.LOW, -1, 0, n / 2, n - 1, n, n + 1, Ints.HIGH};
        int[] dimensions = {Ints.LOW, -1, 0, 1, 2, 3, 4, Ints.HIGH};
        calls.add(new Call("size"));
        for (int i : numbers) {
            for (String method : new String[] {"piece", "opens", "partner", "euler"}) {
                calls.add(new Call(method, i));
            }
            for (int k : dimensions) {
                calls.add(new Call("pieces", i, k));
                calls.add(new Call("holes", i, k));
                calls.add(new Call("lasting", i, n, k));
                calls.add(new Call("lasting", 0, i, k));
                calls.add(new Call("lasting", i, n / 2, k));
            }
        }
        for (int k : dimensions) {
            calls.add(new Call("forever", k));
            calls.add(new Call("longest", k));
        }
        int whole = (1 << n) - 1;
        for (int chain : new int[] {Ints.LOW, -1, 0, 1, whole / 2 + 1, whole, whole + 1, Ints.HIGH}) {
            calls.add(new Call("border", chain));
            calls.add(new Call("bounds", chain));
        }
        return calls;
    }

    /** All that can be asked of a growth, in parts, and what becomes of it under further changes. */
    private static List<Batch> batches(List<Call> history, List<Integer> growth) {
        int n = growth.size();
        List<Batch> batches = new ArrayList<>();
        batches.add(new Batch(history, ofNumbers(n)));
        batches.add(new Batch(history, ofTimes(n)));
        for (int k = 0; k <= 3; k++) {
            batches.add(new Batch(history, lasting(n, k)));
        }
        batches.add(new Batch(history, ofChains(growth, "border")));
        batches.add(new Batch(history, ofChains(growth, "bounds")));
        batches.add(new Batch(history, takenAway(n)));
        batches.add(new Batch(history, grownFurther()));
        return batches;
    }

    private static List<Call> ofNumbers(int n) {
        List<Call> calls = new ArrayList<>();
        calls.add(new Call("size"));
        for (int i = -1; i <= n; i++) {
            calls.add(new Call("piece", i));
            calls.add(new Call("opens", i));
            calls.add(new Call("partner", i));
        }
        for (int k = -1; k <= 4; k++) {
            calls.add(new Call("forever", k));
            calls.add(new Call("longest", k));
        }
        return calls;
    }

    private static List<Call> ofTimes(int n) {
        List<Call> calls = new ArrayList<>();
        for (int t = -1; t <= n + 1; t++) {
            calls.add(new Call("euler", t));
            for (int k = 0; k <= 3; k++) {
                calls.add(new Call("pieces", t, k));
                calls.add(new Call("holes", t, k));
            }
        }
        return calls;
    }

    private static List<Call> lasting(int n, int k) {
        List<Call> calls = new ArrayList<>();
        for (int i = 0; i <= n; i++) {
            for (int j = i; j <= n; j++) {
                calls.add(new Call("lasting", i, j, k));
            }
        }
        return calls;
    }

    /** Single pieces, all pairs, and the sides of each piece of the growth and of each that is not in it. */
    private static List<Call> ofChains(List<Integer> growth, String method) {
        List<Call> calls = new ArrayList<>();
        int[] pieces = growth.stream().mapToInt(Integer::intValue).toArray();
        calls.add(new Call(method, 0));
        calls.add(new Call(method, 1 << pieces.length));
        for (int i = 0; i < pieces.length; i++) {
            for (int j = 0; j <= i; j++) {
                calls.add(new Call(method, 1 << i | 1 << j));
            }
        }
        for (int piece : Growths.allPieces()) {
            calls.add(new Call(method, Growths.chain(pieces, Growths.sides(piece))));
        }
        return calls;
    }

    /** Down to the empty growth and once more, with some questions on the way. */
    private static List<Call> takenAway(int n) {
        List<Call> calls = new ArrayList<>();
        for (int left = n; left >= 0; left--) {
            calls.add(new Call("undo"));
            calls.add(new Call("size"));
            calls.add(new Call("partner", left / 2));
            for (int k = 0; k <= 3; k++) {
                calls.add(new Call("forever", k));
                calls.add(new Call("longest", k));
            }
        }
        return calls;
    }

    /** Whatever can still be added, one fill after it, and the growth that comes of it. */
    private static List<Call> grownFurther() {
        List<Call> calls = new ArrayList<>();
        for (int piece : Growths.allPieces()) {
            calls.add(new Call("add", piece));
        }
        calls.addAll(ofNumbers(Growths.MOST));
        for (int i = 0; i < 15; i++) {
            calls.add(new Call("undo"));
        }
        calls.add(new Call("fill", 60));
        calls.addAll(ofNumbers(Growths.MOST));
        return calls;
    }

    /**
     * Calls with the answers that are due after a history. Each answer comes from a twin of its own,
     * with no question before it: twins that are asked the same would be spoilt in the same way.
     */
    private static final class Batch {
        private final List<Call> calls;
        private final int[] answers;

        Batch(List<Call> history, List<Call> calls) {
            this.calls = calls;
            answers = new int[calls.size()];
            List<Call> changes = new ArrayList<>(history);
            for (int i = 0; i < answers.length; i++) {
                Call call = calls.get(i);
                answers[i] = after(changes).ask(call);
                if (CHANGES.contains(call.method())) {
                    changes.add(call);
                }
            }
        }

        void compare(Probe probe) {
            for (int i = 0; i < answers.length; i++) {
                probe.due(answers[i], calls.get(i));
            }
        }
    }
}
