import java.util.List;

/** The boundary cases that promises 15 and 16 name, a test for each sentence. */
public final class ChainBoundaryTest {
    private static final Checks CHECKS = new Checks();

    public static void main(String[] args) {
        borderOfNoChain();
        borderOfMixedDimensions();
        borderOfTheEmptyChain();
        borderAsSumOfPowers();
        boundsOfNoChain();
        boundsOfMixedDimensions();
        boundsOfBorders();
        boundsOfHoles();
        boundsOfNoCycle();
        CHECKS.end();
    }

    private static Probe grown(int... pieces) {
        return Probe.grown(CHECKS, pieces);
    }

    private static Probe[] bothWaysTo(int n) {
        return Probe.bothWays(CHECKS, n, Growths.FULL);
    }

    /** The due border of one piece of the full growth. */
    private static int sides(int number) {
        return Growths.chain(Growths.FULL, Growths.sides(Growths.FULL[number]));
    }

    private static int dimension(int number) {
        return Growths.dimension(Growths.FULL[number]);
    }

    /** All pieces of one dimension of the full growth. */
    private static int allOf(int k) {
        int chain = 0;
        for (int i = 0; i < Growths.MOST; i++) {
            if (dimension(i) == k) {
                chain |= 1 << i;
            }
        }
        return chain;
    }

    private static void noChainIsTaken(String method) {
        for (int n = 0; n <= Growths.MOST; n++) {
            for (int chain : Ints.outside(0, (1 << n) - 1)) {
                for (Probe probe : bothWaysTo(n)) {
                    probe.due(-1, method, chain);
                }
            }
        }
    }

    private static void borderOfNoChain() {
        CHECKS.sentence("Promise 15", "-1 if chain is not in 0 .. 2^size() - 1");
        noChainIsTaken("border");
        for (int n = 1; n <= Growths.MOST; n++) {
            for (Probe probe : bothWaysTo(n)) {
                probe.due(sides(n - 1), "border", 1 << n - 1);
                // The first two pieces are points, the third is an edge.
                probe.due(n <= 2 ? 0 : -2, "border", (1 << n) - 1);
                probe.due(-1, "border", 1 << n);
            }
        }
        for (int n = 0; n <= 6; n++) {
            Probe points = grown(Growths.first(n, Growths.POINTS));
            points.due(0, "border", (1 << n) - 1);
            points.due(-1, "border", 1 << n);
        }
    }

    private static void boundsOfNoChain() {
        CHECKS.sentence("Promise 16", "-1 if chain is not in 0 .. 2^size() - 1");
        noChainIsTaken("bounds");
        for (int n = 1; n <= Growths.MOST; n++) {
            for (Probe probe : bothWaysTo(n)) {
                probe.due(dimension(n - 1) == 0 ? 0 : 2, "bounds", 1 << n - 1);
                probe.due(n <= 2 ? 0 : -2, "bounds", (1 << n) - 1);
                probe.due(-1, "bounds", 1 << n);
            }
        }
        for (int n = 1; n <= 6; n++) {
            Probe points = grown(Growths.first(n, Growths.POINTS));
            points.due(0, "bounds", (1 << n) - 1);
            points.due(-1, "bounds", 1 << n);
        }
    }

    private static void mixedIsRefused(String method) {
        Probe pairs = grown(Growths.FULL);
        for (int i = 0; i < Growths.MOST; i++) {
            for (int j = 0; j < i; j++) {
                if (dimension(i) != dimension(j)) {
                    pairs.due(-2, method, 1 << i | 1 << j);
                }
            }
        }
        for (int k = 0; k <= 3; k++) {
            Probe nearlyAll = grown(Growths.FULL);
            for (int i = 0; i < Growths.MOST; i++) {
                if (dimension(i) != k) {
                    nearlyAll.due(-2, method, allOf(k) | 1 << i);
                }
            }
        }
        grown(Growths.FULL).due(-2, method, (1 << 26) - 1);
    }

    private static void borderOfMixedDimensions() {
        CHECKS.sentence("Promise 15", "-2 if its pieces are not all of one dimension");
        mixedIsRefused("border");
        Probe pairs = grown(Growths.FULL);
        for (int i = 0; i < Growths.MOST; i++) {
            for (int j = 0; j < i; j++) {
                if (dimension(i) == dimension(j)) {
                    pairs.due(sides(i) ^ sides(j), "border", 1 << i | 1 << j);
                }
            }
        }
        Probe all = grown(Growths.FULL);
        // Each of the six points meets five edges; the four triangles are a hollow.
        int[] borders = {0, allOf(0), 0, allOf(2)};
        for (int k = 0; k <= 3; k++) {
            all.due(borders[k], "border", allOf(k));
        }
    }

    private static void boundsOfMixedDimensions() {
        CHECKS.sentence("Promise 16", "-2 if its pieces are not all of one dimension");
        mixedIsRefused("bounds");
        Probe pairs = grown(Growths.FULL);
        for (int i = 0; i < Growths.MOST; i++) {
            for (int j = 0; j < i; j++) {
                if (dimension(i) == dimension(j)) {
                    pairs.due(dimension(i) == 0 ? 1 : 2, "bounds", 1 << i | 1 << j);
                }
            }
        }
        Probe all = grown(Growths.FULL);
        int[] bounds = {1, 2, 1, 2};
        for (int k = 0; k <= 3; k++) {
            all.due(bounds[k], "bounds", allOf(k));
        }
    }

    private static void borderOfTheEmptyChain() {
        CHECKS.sentence("Promise 15", "(0 for the empty chain.)");
        for (int n = 0; n <= Growths.MOST; n++) {
            for (Probe probe : bothWaysTo(n)) {
                probe.due(0, "border", 0);
            }
        }
    }

    private static void borderAsSumOfPowers() {
        CHECKS.sentence("Promise 15", "chain and border are written as the sum of 2^i");
        for (int n = 1; n <= Growths.MOST; n++) {
            for (Probe probe : bothWaysTo(n)) {
                for (int i = 0; i < n; i++) {
                    probe.due(sides(i), "border", 1 << i);
                }
            }
        }
        // The last number that a piece can have, and the last that a side can have.
        int[] growth = Growths.first(26, Growths.FULL);
        growth[24] = 48;
        growth[25] = 49;
        grown(growth).due(1 << 17 | 1 << 21 | 1 << 24, "border", 1 << 25);
        grown(Growths.LATE_JOIN).due(1 | 2, "border", 1 << 25);
    }

    private static void boundsOfBorders() {
        CHECKS.sentence("Promise 16", "1 if the chain is a cycle and alike to the empty chain");
        for (int n = 0; n <= Growths.MOST; n++) {
            for (Probe probe : bothWaysTo(n)) {
                probe.due(1, "bounds", 0);
                for (int i = 0; i < n; i++) {
                    probe.due(1, "bounds", sides(i));
                }
            }
        }
    }

    private static void boundsOfHoles() {
        CHECKS.sentence("Promise 16", "0 if it is a cycle and not alike to it");
        for (int n = 0; n < Growths.MOST; n++) {
            Probe probe = grown(Growths.first(n, Growths.FULL));
            // The sides of a piece that is to come are a hole just if the piece will close it.
            for (int round = 1; round <= 2; round++) {
                probe.due(Growths.FULL_OPENS[n], "bounds", sides(n));
                probe.due(n, "add", Growths.FULL[n]);
                probe.due(1, "bounds", sides(n));
                probe.due(Growths.FULL[n], "undo");
            }
        }
        for (int i = 0; i < 6; i++) {
            grown(Growths.POINTS).due(0, "bounds", 1 << i);
            grown(Growths.POINTS).due(0, "bounds", 1 << i | 1 << (i + 1) % 6);
        }
        // The hollow, in the fewest pieces in which there is one, and in the most.
        List<Integer> faces = List.of(7, 11, 13, 14);
        grown(Growths.HOLLOW).due(0, "bounds", Growths.chain(Growths.HOLLOW, faces));
        int last = Growths.chain(Growths.LATE_TETRAHEDRON, faces);
        Probe.undone(CHECKS, 25, Growths.LATE_TETRAHEDRON).due(0, "bounds", last);
        grown(Growths.LATE_TETRAHEDRON).due(1, "bounds", last);
    }

    private static void boundsOfNoCycle() {
        CHECKS.sentence("Promise 16", "2 if it is no cycle");
        for (int n = 1; n <= Growths.MOST; n++) {
            for (Probe probe : bothWaysTo(n)) {
                for (int i = 0; i < n; i++) {
                    probe.due(dimension(i) == 0 ? 0 : 2, "bounds", 1 << i);
                }
            }
        }
        // A cycle less one of its pieces.
        Probe full = grown(Growths.FULL);
        for (int i = 0; i < Growths.MOST; i++) {
            for (int j = 0; j < i; j++) {
                if ((sides(i) >> j & 1) == 1) {
                    full.due(dimension(j) == 0 ? 0 : 2, "bounds", sides(i) & ~(1 << j));
                }
            }
        }
        // A hole and an edge apart from it, which has a border of its own.
        Probe apart = grown(1, 2, 4, 3, 5, 6, 8, 16, 24);
        apart.due(0, "bounds", 56);
        apart.due(2, "bounds", 56 | 256);
    }
}
