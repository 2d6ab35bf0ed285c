import java.util.ArrayList;
import java.util.Arrays;
import java.util.List;

/** The boundary cases that 'What it is' and 'Terms' name, a test for each sentence. */
public final class TermsBoundaryTest {
    private static final int[] NO_PIECES = {
        Ints.LOW, Ints.LOW + 1, -64, -1, 0, 31, 47, 55, 59, 61, 62, 63, 64, 65, 127, Ints.HIGH
    };
    private static final int[] NO_DIMENSIONS = {Ints.LOW, -1, 4, Ints.HIGH};

    private static final Checks CHECKS = new Checks();

    public static void main(String[] args) {
        callsUpToTheLast();
        sixPoints();
        oneToFourPoints();
        pointsHaveNoSides();
        sidesOfPieces();
        atMost26Pieces();
        differentPieces();
        sidesComeBefore();
        shapesFromEmptyToWhole();
        oddNumbersOfSides();
        cyclesWithEmptyBorder();
        holesFromNoneToMost();
        lastingFromATimeToItself();
        opensOrCloses();
        partnersByLastingHoles();
        oneOrNoPartner();
        testsInOrder();
        goodNumbers();
        CHECKS.end();
    }

    private static Probe grown(int... pieces) {
        return Probe.grown(CHECKS, pieces);
    }

    private static void callsUpToTheLast() {
        CHECKS.sentence("What it is", "An object is used for at most 512 calls after it has been made");
        // 32 times 16 calls: a tetrahedron is put in and taken away again.
        Probe changes = new Probe(CHECKS);
        for (int round = 1; round <= 32; round++) {
            changes.due(15, "fill", 15);
            for (int piece = 15; piece >= 1; piece--) {
                changes.due(piece, "undo");
            }
        }
        Probe refusals = new Probe(CHECKS);
        for (int call = 1; call <= 486; call++) {
            refusals.due(-1, call % 2 == 0 ? new Call("undo") : new Call("add", 63));
        }
        for (int i = 0; i < Growths.MOST; i++) {
            refusals.due(i, "add", Growths.FULL[i]);
        }
        Probe questions = grown(Growths.FULL);
        for (int call = 27; call <= 510; call++) {
            questions.due(7, "forever", 1);
        }
        questions.due(48, "undo");
        questions.due(6, "forever", 1);
        callsAfterTheLast();
    }

    /** Their answers are free, but LANGUAGE.md lets no call throw or fail to end. */
    private static void callsAfterTheLast() {
        PersistentBars bars = new PersistentBars();
        int made = 0;
        for (int call = 0; call < 3000; call++) {
            new Call("fill", 1 + call % 63).on(bars);
            new Call(call % 3 == 0 ? "undo" : "size").on(bars);
            new Call("bounds", 1 << call % 32).on(bars);
            new Call("lasting", call % 28 - 1, call % 30 - 1, call % 5).on(bars);
            made++;
        }
        CHECKS.due("rounds of calls after the 512th", made, 3000);
    }

    private static void sixPoints() {
        CHECKS.sentence("Terms", "There are six POINTS, 0 .. 5.");
        Probe probe = new Probe(CHECKS);
        probe.due(-1, "add", 0);
        for (int p = 0; p <= 5; p++) {
            probe.due(p, "add", 1 << p);
        }
        for (int p = 6; p <= 31; p++) {
            probe.due(-1, "add", 1 << p);
            probe.due(-1, "fill", 1 << p);
            // A point that there is not, beside one that there is.
            probe.due(-1, "add", 1 << p | 1);
            probe.due(-1, "fill", 1 << p | 1);
        }
        probe.due(6, "add", 33);
        probe.due(6, "pieces", 7, 0);
    }

    private static void oneToFourPoints() {
        CHECKS.sentence("Terms", "A PIECE is a set of one to four points");
        for (int set = -300; set <= 300; set++) {
            boolean piece = set >= 1 && set <= 63 && Integer.bitCount(set) <= 4;
            int due = piece ? (1 << Integer.bitCount(set)) - 1 : -1;
            Probe probe = new Probe(CHECKS);
            probe.due(due, "fill", set);
            probe.due(piece ? -2 : -1, "add", set);
            probe.due(piece ? set : -1, "undo");
            probe.due(piece ? due - 1 : -1, "add", set);
        }
    }

    private static void pointsHaveNoSides() {
        CHECKS.sentence("Terms", "a single point has no sides");
        for (int point : Growths.POINTS) {
            Probe probe = new Probe(CHECKS);
            probe.due(0, "add", point);
            probe.due(0, "border", 1);
            probe.due(0, "bounds", 1);
            probe.due(1, "opens", 0);
        }
        // The last place of a growth is as good for a point as the first.
        Probe last = grown(Growths.first(25, Growths.FIVE_POINTS));
        last.due(25, "add", 32);
        last.due(0, "border", 1 << 25);
        last.due(0, "bounds", 1 << 25);
        last.due(1, "opens", 25);
    }

    private static void sidesOfPieces() {
        CHECKS.sentence("Terms",
                "THE SIDES of a piece of k > 1 points are the k sets of k - 1 of its points");
        for (int piece : Growths.allPieces()) {
            List<Integer> growth = new ArrayList<>();
            for (int set = 1; set <= piece; set++) {
                if ((set | piece) == piece) {
                    growth.add(set);
                }
            }
            int[] pieces = growth.stream().mapToInt(Integer::intValue).toArray();
            int sides = Growths.chain(pieces, Growths.sides(piece));
            int points = Integer.bitCount(piece);
            CHECKS.due("sides of " + piece, Integer.bitCount(sides), points == 1 ? 0 : points);
            grown(pieces).due(sides, "border", 1 << pieces.length - 1);
        }
    }

    private static void atMost26Pieces() {
        CHECKS.sentence("Terms", "There is a list of at most 26 .. pieces");
        for (int[] growth : Growths.FULL_ONES) {
            Probe probe = grown(growth);
            for (int piece : Growths.allPieces()) {
                probe.ask("add", piece);
                probe.ask("fill", piece);
            }
            probe.due(26, "size");
            probe.due(growth[25], "piece", 25);
            probe.due(-1, "piece", 26);
            for (int k = 0; k <= 3; k++) {
                int dimension = k;
                int due = (int) Arrays.stream(growth).filter(p -> Growths.dimension(p) == dimension).count();
                probe.due(due, "pieces", 26, k);
                probe.due(-1, "pieces", 27, k);
            }
        }
    }

    private static void differentPieces() {
        CHECKS.sentence("Terms", "26 different pieces");
        Probe probe = new Probe(CHECKS);
        for (int piece : Growths.FULL) {
            probe.ask("add", piece);
            probe.ask("add", piece);
            probe.ask("fill", piece);
        }
        probe.due(26, "size");
        for (int i = 0; i < Growths.MOST; i++) {
            probe.due(Growths.FULL[i], "piece", i);
        }
    }

    private static void sidesComeBefore() {
        CHECKS.sentence("Terms", "such that all sides of a piece come before it");
        int[] orders = {60, 51, 15, 39, 57, 27};
        for (int order : orders) {
            Probe probe = new Probe(CHECKS);
            // Each set, from the greatest down, so that most come before their sides and are refused.
            for (int set = 63; set >= 1; set--) {
                probe.ask("add", set);
            }
            probe.due(6, "size");
            probe.ask("fill", order);
            for (int set = 63; set >= 1; set--) {
                probe.ask("add", set);
            }
            List<Integer> before = new ArrayList<>();
            int size = probe.ask("size");
            for (int i = 0; i < size; i++) {
                int piece = probe.ask("piece", i);
                CHECKS.due("sides of piece " + i + " before it",
                        before.containsAll(Growths.sides(piece)) ? 1 : 0, 1);
                before.add(piece);
            }
        }
    }

    private static void shapesFromEmptyToWhole() {
        CHECKS.sentence("Terms", "THE SHAPE AT t, for t = 0 .. size(), is the set of the first t pieces.");
        Probe probe = grown(Growths.FULL);
        for (int t = 0; t <= Growths.MOST; t++) {
            int[] shape = Growths.first(t, Growths.FULL);
            for (int k = 0; k <= 3; k++) {
                int dimension = k;
                int due = (int) Arrays.stream(shape).filter(p -> Growths.dimension(p) == dimension).count();
                probe.due(due, "pieces", t, k);
                probe.due(Growths.FULL_HOLES[k][t], "holes", t, k);
            }
            probe.due(Growths.FULL_EULER[t], "euler", t);
        }
    }

    private static void oddNumbersOfSides() {
        CHECKS.sentence("Terms", "those pieces that are sides of an odd number of its members");
        // Five edges (6 .. 10) that share the point 0, and m of them.
        Probe edges = grown(1, 2, 4, 8, 16, 32, 3, 5, 9, 17, 33);
        for (int m = 0; m <= 5; m++) {
            int ends = (1 << m) - 1 << 1;
            edges.due(ends | m % 2, "border", (1 << m) - 1 << 6);
        }
        // Four triangles (15 .. 18) that share the edge 3 (6), and m of them.
        int[] growth = {1, 2, 4, 8, 16, 32, 3, 5, 6, 9, 10, 17, 18, 33, 34, 7, 11, 19, 35};
        Probe triangles = grown(growth);
        for (int m = 0; m <= 4; m++) {
            int outer = (1 << 2 * m) - 1 << 7;
            triangles.due(outer | m % 2 << 6, "border", (1 << m) - 1 << 15);
        }
    }

    private static void cyclesWithEmptyBorder() {
        CHECKS.sentence("Terms", "A chain is a CYCLE if its border is empty.");
        Probe points = grown(Growths.POINTS);
        points.due(1, "bounds", 0);
        for (int chain = 1; chain < 64; chain++) {
            points.due(0, "bounds", chain);
        }
        // Of all chains of the edges of a loop (3, 4, 5) only the empty one and the whole loop.
        Probe loop = grown(1, 2, 4, 3, 5, 6);
        int[] due = {1, 2, 2, 2, 2, 2, 2, 0};
        for (int chain = 0; chain < due.length; chain++) {
            loop.due(due[chain], "bounds", chain << 3);
        }
    }

    private static void holesFromNoneToMost() {
        CHECKS.sentence("Terms", "THE HOLES of dimension k at t is the greatest number of cycles");
        Probe points = grown(Growths.POINTS);
        for (int t = 0; t <= 6; t++) {
            points.due(t, "holes", t, 0);
            points.due(0, "holes", t, 1);
        }
        // All 15 edges of six points: five of them join, each of the others opens a loop.
        Probe edges = grown(1, 2, 4, 8, 16, 32, 3, 5, 9, 17, 33, 6, 10, 12, 18, 20, 24, 34, 36, 40, 48);
        for (int t = 6; t <= 21; t++) {
            edges.due(t <= 11 ? 12 - t : 1, "holes", t, 0);
            edges.due(t <= 11 ? 0 : t - 11, "holes", t, 1);
        }
        Probe hollow = grown(Growths.HOLLOW);
        hollow.due(0, "holes", 13, 2);
        hollow.due(1, "holes", 14, 2);
        hollow.due(14, "add", 15);
        hollow.due(0, "holes", 15, 2);
        hollow.due(0, "holes", 15, 3);
    }

    private static void lastingFromATimeToItself() {
        CHECKS.sentence("Terms", "For i <= j, THE LASTING HOLES of dimension k from i to j");
        for (int[] growth : Growths.FULL_ONES) {
            for (int k = 0; k <= 3; k++) {
                Probe probe = grown(growth);
                for (int t = 0; t <= Growths.MOST; t++) {
                    probe.due(probe.ask("holes", t, k), "lasting", t, t, k);
                    probe.due(0, "lasting", 0, t, k);
                    probe.due(-1, "lasting", t, t - 1, k);
                }
            }
        }
        // The hole of the last pieces that open, to the time before their partner and to its own.
        Probe join = grown(Growths.LATE_JOIN);
        join.due(2, "lasting", 2, 25, 0);
        join.due(1, "lasting", 2, 26, 0);
        Probe triangle = grown(Growths.LATE_TRIANGLE);
        triangle.due(0, "lasting", 5, 25, 1);
        triangle.due(1, "lasting", 6, 25, 1);
        triangle.due(0, "lasting", 6, 26, 1);
        Probe tetrahedron = grown(Growths.LATE_TETRAHEDRON);
        tetrahedron.due(0, "lasting", 13, 25, 2);
        tetrahedron.due(1, "lasting", 14, 25, 2);
        tetrahedron.due(0, "lasting", 14, 26, 2);
    }

    private static void opensOrCloses() {
        CHECKS.sentence("Terms", "Putting piece number i in either OPENS a hole .. or CLOSES one");
        for (int[] growth : Growths.FULL_ONES) {
            Probe probe = grown(growth);
            for (int i = 0; i < Growths.MOST; i++) {
                int own = Growths.dimension(growth[i]);
                int opens = probe.ask("opens", i);
                CHECKS.due("opens is 0 or 1", opens & ~1, 0);
                for (int k = 0; k <= 3; k++) {
                    int change = k == own ? opens : k == own - 1 ? opens - 1 : 0;
                    probe.due(probe.ask("holes", i, k) + change, "holes", i + 1, k);
                }
            }
            probe.due(1, "opens", 0);
        }
    }

    private static void partnersByLastingHoles() {
        CHECKS.sentence("Terms",
                "they are PARTNERS if .. L(i + 1, j) - L(i + 1, j + 1) - L(i, j) + L(i, j + 1) is 1");
        for (int[] growth : Growths.FULL_ONES) {
            for (int i = 0; i < Growths.MOST; i++) {
                Probe probe = grown(growth);
                int k = Growths.dimension(growth[i]);
                int due = -2;
                // From j = i + 1, the very next piece, to the last one.
                for (int j = i + 1; j < Growths.MOST; j++) {
                    int difference = probe.ask("lasting", i + 1, j, k) - probe.ask("lasting", i + 1, j + 1, k)
                            - probe.ask("lasting", i, j, k) + probe.ask("lasting", i, j + 1, k);
                    if (difference == 1 && Growths.dimension(growth[j]) == k + 1) {
                        due = j;
                        probe.due(i, "partner", j);
                        probe.due(0, "opens", j);
                    }
                }
                if (probe.ask("opens", i) == 1) {
                    probe.due(due, "partner", i);
                }
            }
        }
    }

    private static void oneOrNoPartner() {
        CHECKS.sentence("Terms",
                "Every piece that closes has just one partner, and every piece that opens has one or none.");
        for (int[] growth : Growths.FULL_ONES) {
            for (int n = 0; n <= Growths.MOST; n++) {
                Probe probe = Probe.undone(CHECKS, n, growth);
                for (int i = 0; i < n; i++) {
                    checkPartner(probe, growth, n, i);
                }
            }
        }
    }

    private static void checkPartner(Probe probe, int[] growth, int n, int i) {
        int partner = probe.ask("partner", i);
        boolean opens = probe.ask("opens", i) == 1;
        String what = "partner " + partner + " of piece " + i + " of " + n;
        if (opens && partner == -2) {
            CHECKS.due(what, partner, -2);
            return;
        }
        boolean there = opens ? partner > i && partner < n : partner >= 0 && partner < i;
        CHECKS.due(what + " is there, on the right side", there ? 1 : 0, 1);
        if (there) {
            int step = Growths.dimension(growth[partner]) - Growths.dimension(growth[i]);
            CHECKS.due(what + ", its dimension", step, opens ? 1 : -1);
            probe.due(i, "partner", partner);
            probe.due(opens ? 0 : 1, "opens", partner);
        }
    }

    private static void testsInOrder() {
        CHECKS.sentence("Terms", "In every method the tests are made in the order named");
        addInOrder();
        fillInOrder();
        questionsInOrder();
        chainsInOrder();
    }

    private static void addInOrder() {
        // -1 before -3: no piece, and its sides are missing. -2 before -3 never fits together.
        for (int piece : NO_PIECES) {
            new Probe(CHECKS).due(-1, "add", piece);
            grown(Growths.SQUARE).due(-1, "add", piece);
            // -1 before -4, and before -3 and -4.
            for (int[] full : Growths.FULL_ONES) {
                grown(full).due(-1, "add", piece);
            }
        }
        for (int[] full : Growths.FULL_ONES) {
            // -2 before -4: all that are there, in a full growth.
            Probe probe = grown(full);
            for (int piece : full) {
                probe.due(-2, "add", piece);
            }
        }
        // -3 before -4: pieces of two, three and four points that miss one side or all.
        Probe five = grown(Growths.FIVE_POINTS);
        for (int piece : new int[] {33, 48, 35, 56, 39, 60, 29, 30}) {
            five.due(-3, "add", piece);
        }
        Probe full = grown(Growths.FULL);
        for (int piece : new int[] {23, 27, 29, 30, 39, 43, 45, 46, 51, 53, 54, 57, 58, 60}) {
            full.due(-3, "add", piece);
        }
        full.due(-4, "add", 19);
    }

    private static void fillInOrder() {
        for (int piece : NO_PIECES) {
            for (int[] full : Growths.FULL_ONES) {
                grown(full).due(-1, "fill", piece);
            }
            grown(Growths.first(15, Growths.FULL)).due(-1, "fill", piece);
        }
        grown(Growths.FULL).due(-2, "fill", 60);
    }

    private static void questionsInOrder() {
        for (int n : new int[] {0, 1, 11, 25, 26}) {
            int[] growth = Growths.first(n, Growths.FULL);
            for (int k : NO_DIMENSIONS) {
                for (int t : new int[] {Ints.LOW, -1, n + 1, 27, Ints.HIGH}) {
                    grown(growth).due(-1, "pieces", t, k);
                    grown(growth).due(-1, "holes", t, k);
                    grown(growth).due(-1, "lasting", t, n, k);
                    grown(growth).due(-1, "lasting", 0, t, k);
                    grown(growth).due(-1, "lasting", t, t, k);
                }
                grown(growth).due(-2, "pieces", n, k);
                grown(growth).due(-2, "holes", n, k);
                grown(growth).due(-2, "lasting", n, n, k);
            }
        }
        for (int k : NO_DIMENSIONS) {
            grown(Growths.FULL).due(-1, "lasting", 1, 0, k);
            grown(Growths.FULL).due(-1, "lasting", 26, 25, k);
        }
    }

    private static void chainsInOrder() {
        for (String method : new String[] {"border", "bounds"}) {
            // -1 before -2: the pieces that there are have two dimensions, and one is not there.
            for (int n = 3; n <= Growths.MOST; n++) {
                Probe probe = grown(Growths.first(n, Growths.FULL));
                probe.due(-2, method, 1 | 4);
                probe.due(-1, method, 1 | 4 | 1 << n);
                probe.due(-1, method, 1 | 4 | 1 << 30);
                probe.due(-1, method, 1 | 4 | Ints.LOW);
                probe.due(-1, method, -1);
                probe.due(-1, method, Ints.HIGH);
            }
            // What undo took away had another dimension.
            Probe undone = Probe.undone(CHECKS, 2, 1, 2, 3);
            undone.due(-1, method, 1 | 4);
        }
        // -2 before each answer of bounds: a point, with a border, a hole, and an edge.
        Probe loop = grown(1, 2, 4, 3, 5, 6);
        loop.due(1, "bounds", 3);
        loop.due(-2, "bounds", 3 | 56);
        loop.due(0, "bounds", 56);
        loop.due(-2, "bounds", 1 | 56);
        loop.due(2, "bounds", 8);
        loop.due(-2, "bounds", 1 | 8);
    }

    private static void goodNumbers() {
        CHECKS.sentence("Terms", "a piece's number is good if there is such a piece");
        for (String method : new String[] {"piece", "opens", "partner"}) {
            for (int n = 0; n <= Growths.MOST; n++) {
                Probe probe = Probe.undone(CHECKS, n, Growths.FULL);
                for (int i = -40; i <= 40; i++) {
                    int refused = probe.ask(method, i) == -1 ? 1 : 0;
                    CHECKS.due(method + "(" + i + ") of " + n + " is refused", refused, i < 0 || i >= n ? 1 : 0);
                }
                probe.due(-1, method, Ints.LOW);
                probe.due(-1, method, Ints.HIGH);
            }
        }
    }
}
