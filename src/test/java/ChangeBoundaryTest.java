import java.util.ArrayList;
import java.util.Arrays;
import java.util.List;

/** The boundary cases that promises 1 to 5 name, a test for each sentence. */
public final class ChangeBoundaryTest {
    private static final int[] FIVE_OR_SIX_POINTS = {31, 47, 55, 59, 61, 62, 63};

    private static final Checks CHECKS = new Checks();

    public static void main(String[] args) {
        newGrowthIsEmpty();
        addOutOfRange();
        addOfTooManyPoints();
        addOfWhatIsThere();
        addWithoutASide();
        addToFull();
        addAnswersTheNumber();
        fillPutsAllSets();
        fillInRisingOrder();
        fillOfWhatIsThere();
        fillOutOfRange();
        fillOfTooManyPoints();
        fillBeyondFull();
        fillAnswersTheSize();
        undoTakesTheLast();
        undoOfNone();
        undoAnswersThePiece();
        sizeFromEmptyToFull();
        CHECKS.end();
    }

    private static Probe fresh() {
        return new Probe(CHECKS);
    }

    private static Probe grown(int... pieces) {
        return Probe.grown(CHECKS, pieces);
    }

    private static void dueGrowth(Probe probe, List<Integer> growth) {
        probe.due(growth.size(), "size");
        for (int i = 0; i < growth.size(); i++) {
            probe.due(growth.get(i), "piece", i);
        }
        probe.due(-1, "piece", growth.size());
    }

    private static List<Integer> listOf(int... pieces) {
        List<Integer> list = new ArrayList<>();
        Arrays.stream(pieces).forEach(list::add);
        return list;
    }

    /** The growth that a fill is due to leave, if it is not refused. */
    private static List<Integer> filled(List<Integer> growth, int piece) {
        List<Integer> filled = new ArrayList<>(growth);
        for (int set = 1; set <= piece; set++) {
            if ((set | piece) == piece && !filled.contains(set)) {
                filled.add(set);
            }
        }
        return filled;
    }

    private static void newGrowthIsEmpty() {
        CHECKS.sentence("Promise 1", "The growth is empty.");
        // The second object is made when the first one is full: they share nothing.
        for (int objects = 1; objects <= 2; objects++) {
            Probe probe = fresh();
            dueGrowth(probe, listOf());
            probe.due(0, "euler", 0);
            probe.due(0, "border", 0);
            probe.due(1, "bounds", 0);
            probe.due(-1, "opens", 0);
            probe.due(-1, "partner", 0);
            for (int k = 0; k <= 3; k++) {
                probe.due(0, "pieces", 0, k);
                probe.due(0, "holes", 0, k);
                probe.due(0, "lasting", 0, 0, k);
                probe.due(0, "forever", k);
                probe.due(0, "longest", k);
            }
            probe.due(-1, "undo");
            for (int i = 0; i < Growths.MOST; i++) {
                probe.due(i, "add", Growths.FULL[i]);
            }
        }
        Probe one = fresh();
        Probe other = fresh();
        one.due(0, "add", 1);
        other.due(0, "size");
        other.due(0, "add", 2);
        one.due(-3, "add", 3);
        one.due(1, "piece", 0);
    }

    private static void addOutOfRange() {
        CHECKS.sentence("Promise 2", "-1 if piece is not in 1 .. 63");
        for (int piece : Ints.outside(1, 63)) {
            fresh().due(-1, "add", piece);
            grown(Growths.SQUARE).due(-1, "add", piece);
            grown(Growths.FULL).due(-1, "add", piece);
        }
        fresh().due(0, "add", 1);
        // 63 and its neighbours are refused as well, for their points: 60 is the last one taken.
        Probe probe = fresh();
        probe.due(15, "fill", 60);
        probe.due(60, "undo");
        probe.due(14, "add", 60);
    }

    private static void addOfTooManyPoints() {
        CHECKS.sentence("Promise 2", "-1 if .. has more than four points");
        for (int piece : FIVE_OR_SIX_POINTS) {
            fresh().due(-1, "add", piece);
            grown(Growths.FULL).due(-1, "add", piece);
        }
        for (int piece : Growths.allPieces()) {
            Probe probe = fresh();
            int sets = (1 << Integer.bitCount(piece)) - 1;
            probe.due(sets, "fill", piece);
            probe.due(piece, "undo");
            probe.due(sets - 1, "add", piece);
        }
    }

    private static void addOfWhatIsThere() {
        CHECKS.sentence("Promise 2", "-2 if it is in the growth");
        for (int n = 1; n <= Growths.MOST; n++) {
            int[] growth = Growths.first(n, Growths.FULL);
            Probe again = grown(growth);
            for (int piece : growth) {
                again.due(-2, "add", piece);
            }
            // A piece that has been taken away is no longer there.
            Probe back = grown(growth);
            back.due(growth[n - 1], "undo");
            back.due(n - 1, "add", growth[n - 1]);
            back.due(-2, "add", growth[n - 1]);
        }
    }

    private static void addWithoutASide() {
        CHECKS.sentence("Promise 2", "-3 if one of its sides is not");
        for (int piece : Growths.allPieces()) {
            for (int missing : Growths.sides(piece)) {
                Probe probe = fresh();
                for (int side : Growths.sides(piece)) {
                    if (side != missing) {
                        probe.ask("fill", side);
                    }
                }
                int size = probe.ask("size");
                probe.due(-3, "add", piece);
                probe.due(size, "add", missing);
                probe.due(size + 1, "add", piece);
            }
        }
        for (int piece : Growths.allPieces()) {
            fresh().due(Integer.bitCount(piece) == 1 ? 0 : -3, "add", piece);
        }
        // All points, but no edge; all edges, but no triangle.
        grown(Growths.POINTS).due(-3, "add", 7);
        grown(1, 2, 4, 8, 3, 5, 6, 9, 10, 12).due(-3, "add", 15);
        Probe takenAway = grown(1, 2);
        takenAway.due(2, "undo");
        takenAway.due(-3, "add", 3);
    }

    private static void addToFull() {
        CHECKS.sentence("Promise 2", "-4 if there are 26 pieces");
        int[] more = {32, 27};
        for (int piece : more) {
            Probe last = grown(Growths.first(Growths.MOST - 1, Growths.FIVE_POINTS));
            last.due(piece == 32 ? 25 : -3, "add", piece);
            Probe full = grown(Growths.FIVE_POINTS);
            full.due(-4, "add", piece);
            full.due(-4, "add", piece);
            full.due(26, "undo");
            full.due(25, "add", 26);
            full.due(-4, "add", piece);
        }
        Probe full = grown(Growths.FULL);
        for (int piece : new int[] {19, 21, 22, 25, 26, 28, 35, 37, 38, 41, 42, 44, 49, 50, 52, 56}) {
            full.due(-4, "add", piece);
        }
        full.due(48, "undo");
        full.due(25, "add", 19);
        full.due(-4, "add", 48);
        Probe filled = fresh();
        filled.due(15, "fill", 15);
        filled.due(23, "fill", 23);
        filled.due(25, "fill", 33);
        filled.due(26, "fill", 34);
        filled.due(-4, "add", 35);
    }

    private static void addAnswersTheNumber() {
        CHECKS.sentence("Promise 2", "otherwise answers its number");
        for (int[] growth : Growths.FULL_ONES) {
            Probe probe = fresh();
            for (int i = 0; i < Growths.MOST; i++) {
                probe.due(i, "add", growth[i]);
                probe.due(growth[i], "piece", i);
                probe.due(i + 1, "size");
            }
        }
    }

    private static void fillPutsAllSets() {
        CHECKS.sentence("Promise 3", "Puts a piece and all sets of some of its points");
        for (int piece : Growths.allPieces()) {
            Probe probe = fresh();
            probe.due((1 << Integer.bitCount(piece)) - 1, "fill", piece);
            // The empty set is no piece, so a single point puts in itself alone.
            dueGrowth(probe, filled(listOf(), piece));
        }
    }

    private static void fillInRisingOrder() {
        CHECKS.sentence("Promise 3", "at the end of the growth, in rising order of numbers");
        Probe probe = grown(32, 4, 1, 36);
        probe.due(15, "fill", 45);
        dueGrowth(probe, listOf(32, 4, 1, 36, 5, 8, 9, 12, 13, 33, 37, 40, 41, 44, 45));
    }

    private static void fillOfWhatIsThere() {
        CHECKS.sentence("Promise 3", "except those that are in it already");
        for (int first : Growths.allPieces()) {
            for (int second : Growths.allPieces()) {
                List<Integer> before = filled(listOf(), first);
                List<Integer> after = filled(before, second);
                Probe probe = fresh();
                probe.due(before.size(), "fill", first);
                boolean fits = after.size() <= Growths.MOST;
                probe.due(fits ? after.size() : -2, "fill", second);
                dueGrowth(probe, fits ? after : before);
            }
        }
        // All of them there, in a full growth too; only the piece itself missing.
        Probe full = grown(Growths.FULL);
        for (int piece : Growths.FULL) {
            full.due(26, "fill", piece);
        }
        dueGrowth(full, listOf(Growths.FULL));
        Probe hollow = grown(Growths.HOLLOW);
        hollow.due(15, "fill", 15);
        hollow.due(15, "piece", 14);
        hollow.due(15, "fill", 15);
    }

    private static void fillOutOfRange() {
        CHECKS.sentence("Promise 3", "-1 if piece is not in 1 .. 63");
        for (int piece : Ints.outside(1, 63)) {
            fresh().due(-1, "fill", piece);
            grown(Growths.SQUARE).due(-1, "fill", piece);
            grown(Growths.FULL).due(-1, "fill", piece);
        }
        fresh().due(1, "fill", 1);
        fresh().due(15, "fill", 60);
    }

    private static void fillOfTooManyPoints() {
        CHECKS.sentence("Promise 3", "-1 if .. has more than four points");
        for (int piece : FIVE_OR_SIX_POINTS) {
            fresh().due(-1, "fill", piece);
            grown(Growths.SQUARE).due(-1, "fill", piece);
            grown(Growths.FULL).due(-1, "fill", piece);
        }
        for (int piece : Growths.allPieces()) {
            fresh().due((1 << Integer.bitCount(piece)) - 1, "fill", piece);
        }
    }

    private static void fillBeyondFull() {
        CHECKS.sentence("Promise 3", "-2 if there would be more than 26 pieces");
        // Twelve more: up to 26 from 14, but 27 from 15.
        Probe justFull = grown(Growths.HOLLOW);
        justFull.due(26, "fill", 51);
        dueGrowth(justFull, filled(listOf(Growths.HOLLOW), 51));
        Probe tooMany = grown(Growths.first(15, Growths.FULL));
        tooMany.due(-2, "fill", 51);
        dueGrowth(tooMany, listOf(Growths.first(15, Growths.FULL)));
        // One more and two more at 24, 25 and 26.
        grown(Growths.first(24, Growths.FIVE_POINTS)).due(25, "fill", 32);
        grown(Growths.first(24, Growths.FIVE_POINTS)).due(26, "fill", 33);
        grown(Growths.first(25, Growths.FIVE_POINTS)).due(26, "fill", 32);
        grown(Growths.first(25, Growths.FIVE_POINTS)).due(-2, "fill", 33);
        grown(Growths.FIVE_POINTS).due(-2, "fill", 32);
        for (int n = 0; n <= Growths.MOST; n++) {
            int[] growth = Growths.first(n, Growths.FULL);
            for (int piece : Growths.allPieces()) {
                List<Integer> after = filled(listOf(growth), piece);
                boolean fits = after.size() <= Growths.MOST;
                Probe probe = grown(growth);
                probe.due(fits ? after.size() : -2, "fill", piece);
                dueGrowth(probe, fits ? after : listOf(growth));
            }
        }
    }

    private static void fillAnswersTheSize() {
        CHECKS.sentence("Promise 3", "otherwise answers how many pieces there are now");
        Probe probe = fresh();
        probe.due(1, "fill", 32);
        probe.due(1, "fill", 32);
        probe.due(3, "fill", 33);
        probe.due(7, "fill", 35);
        probe.due(7, "fill", 34);
        probe.due(15, "fill", 39);
        probe.due(15, "size");
        probe.due(39, "undo");
        probe.due(15, "fill", 39);
        probe.due(23, "fill", 43);
        probe.due(25, "fill", 48);
        probe.due(26, "fill", 17);
        probe.due(26, "fill", 17);
        probe.due(26, "size");
    }

    private static void undoTakesTheLast() {
        CHECKS.sentence("Promise 4", "Takes the last piece away");
        for (int n = 1; n <= Growths.MOST; n++) {
            Probe probe = grown(Growths.first(n, Growths.FULL));
            probe.ask("undo");
            dueGrowth(probe, listOf(Growths.first(n - 1, Growths.FULL)));
        }
        // Only the last of the pieces that fill put in.
        Probe filled = fresh();
        filled.due(7, "fill", 7);
        filled.ask("undo");
        dueGrowth(filled, listOf(1, 2, 3, 4, 5, 6));
    }

    private static void undoOfNone() {
        CHECKS.sentence("Promise 4", "-1 if there is none");
        Probe probe = fresh();
        for (int round = 1; round <= 2; round++) {
            probe.due(-1, "undo");
            probe.due(-1, "undo");
            probe.due(0, "size");
            probe.due(0, "add", 32);
            probe.due(32, "undo");
        }
        Probe full = Probe.undone(CHECKS, 0, Growths.FULL);
        full.due(-1, "undo");
        full.due(0, "size");
        full.due(-3, "add", 3);
        for (int i = 0; i < Growths.MOST; i++) {
            full.due(i, "add", Growths.LATE_JOIN[i]);
        }
        full.due(33, "undo");
    }

    private static void undoAnswersThePiece() {
        CHECKS.sentence("Promise 4", "otherwise answers it");
        for (int[] growth : Growths.FULL_ONES) {
            Probe probe = grown(growth);
            for (int i = Growths.MOST - 1; i >= 0; i--) {
                probe.due(growth[i], "undo");
            }
        }
    }

    private static void sizeFromEmptyToFull() {
        CHECKS.sentence("Promise 5", "How many pieces there are.");
        Probe probe = fresh();
        for (int n = 0; n < Growths.MOST; n++) {
            probe.due(n, "size");
            probe.due(n, "add", Growths.FULL[n]);
        }
        probe.due(26, "size");
        probe.due(-4, "add", 19);
        probe.due(26, "size");
        for (int n = Growths.MOST - 1; n >= 0; n--) {
            probe.due(Growths.FULL[n], "undo");
            probe.due(n, "size");
        }
        probe.due(-1, "undo");
        probe.due(0, "size");
    }
}
