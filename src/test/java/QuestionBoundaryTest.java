import java.util.Arrays;

/** The boundary cases that promises 6 to 14 name, a test for each sentence. */
public final class QuestionBoundaryTest {
    private static final int[] NO_DIMENSIONS = Ints.outside(0, 3);

    private static final Checks CHECKS = new Checks();

    public static void main(String[] args) {
        pieceOfNoNumber();
        piecesAtNoTime();
        piecesOfNoDimension();
        holesAtNoTime();
        holesOfNoDimension();
        lastingBetweenNoTimes();
        lastingOfNoDimension();
        opensOfNoNumber();
        opensFromFirstToLast();
        partnerOfNoNumber();
        partnerOfNone();
        foreverOfNone();
        foreverOfNoDimension();
        longestOfNone();
        longestDifference();
        longestOfNoDimension();
        eulerAtNoTime();
        eulerOfEachDimension();
        CHECKS.end();
    }

    private static Probe[] bothWaysTo(int n) {
        return Probe.bothWays(CHECKS, n, Growths.FULL);
    }

    /** A fresh object for each wrong argument: none of them hides what another one did. */
    private static void refused(int want, int n, String method, int... args) {
        for (Probe probe : bothWaysTo(n)) {
            probe.due(want, method, args);
        }
    }

    private static void noNumberIsTaken(String method) {
        for (int n = 0; n <= Growths.MOST; n++) {
            for (int i : Ints.outside(0, n - 1)) {
                refused(-1, n, method, i);
            }
        }
    }

    private static void pieceOfNoNumber() {
        CHECKS.sentence("Promise 6", "-1 if i is not good");
        noNumberIsTaken("piece");
        for (int n = 1; n <= Growths.MOST; n++) {
            for (Probe probe : bothWaysTo(n)) {
                for (int i = 0; i < n; i++) {
                    probe.due(Growths.FULL[i], "piece", i);
                }
            }
        }
    }

    private static int piecesDue(int t, int k) {
        return (int) Arrays.stream(Growths.FULL, 0, t).filter(p -> Growths.dimension(p) == k).count();
    }

    private static void piecesAtNoTime() {
        CHECKS.sentence("Promise 7", "-1 if t is not in 0 .. size()");
        for (int n = 0; n <= Growths.MOST; n++) {
            for (int t : Ints.outside(0, n)) {
                refused(-1, n, "pieces", t, t & 3);
            }
            for (Probe probe : bothWaysTo(n)) {
                for (int k = 0; k <= 3; k++) {
                    probe.due(0, "pieces", 0, k);
                    probe.due(piecesDue(n, k), "pieces", n, k);
                    probe.due(-1, "pieces", -1, k);
                    probe.due(-1, "pieces", n + 1, k);
                }
            }
        }
    }

    private static void piecesOfNoDimension() {
        CHECKS.sentence("Promise 7", "-2 if k is not in 0 .. 3");
        for (int n = 0; n <= Growths.MOST; n++) {
            for (int k : NO_DIMENSIONS) {
                refused(-2, n, "pieces", 0, k);
                refused(-2, n, "pieces", n, k);
            }
        }
        Probe full = Probe.grown(CHECKS, Growths.FULL);
        int[] all = {6, 15, 4, 1};
        for (int k = 0; k <= 3; k++) {
            full.due(all[k], "pieces", 26, k);
        }
    }

    private static void holesAtNoTime() {
        CHECKS.sentence("Promise 8", "-1 if t is not in 0 .. size()");
        for (int n = 0; n <= Growths.MOST; n++) {
            for (int t : Ints.outside(0, n)) {
                refused(-1, n, "holes", t, t & 3);
            }
            for (Probe probe : bothWaysTo(n)) {
                for (int k = 0; k <= 3; k++) {
                    probe.due(0, "holes", 0, k);
                    probe.due(Growths.FULL_HOLES[k][n], "holes", n, k);
                    probe.due(-1, "holes", -1, k);
                    probe.due(-1, "holes", n + 1, k);
                }
            }
        }
    }

    private static void holesOfNoDimension() {
        CHECKS.sentence("Promise 8", "-2 if k is not in 0 .. 3");
        for (int n = 0; n <= Growths.MOST; n++) {
            for (int k : NO_DIMENSIONS) {
                refused(-2, n, "holes", 0, k);
                refused(-2, n, "holes", n, k);
            }
        }
        Probe hollow = Probe.grown(CHECKS, Growths.HOLLOW);
        int[] holes = {1, 0, 1, 0};
        for (int k = 0; k <= 3; k++) {
            hollow.due(holes[k], "holes", 14, k);
        }
    }

    private static void lastingBetweenNoTimes() {
        CHECKS.sentence("Promise 9", "-1 unless 0 <= i <= j <= size()");
        for (int n = 0; n <= Growths.MOST; n++) {
            for (int wrong : Ints.outside(0, n)) {
                refused(-1, n, "lasting", wrong, n, wrong & 3);
                refused(-1, n, "lasting", 0, wrong, wrong & 3);
                refused(-1, n, "lasting", wrong, wrong, wrong & 3);
            }
            refused(-1, n, "lasting", Ints.LOW, Ints.HIGH, 0);
            refused(-1, n, "lasting", Ints.HIGH, Ints.LOW, 0);
            for (Probe probe : bothWaysTo(n)) {
                lastingAtTheEnds(probe, n);
            }
        }
        Probe turned = Probe.grown(CHECKS, Growths.FULL);
        for (int i = 1; i <= Growths.MOST; i++) {
            for (int j = 0; j < i; j++) {
                turned.due(-1, "lasting", i, j, (i + j) & 3);
            }
        }
    }

    private static void lastingAtTheEnds(Probe probe, int n) {
        for (int k = 0; k <= 3; k++) {
            probe.due(0, "lasting", 0, 0, k);
            probe.due(0, "lasting", 0, n, k);
            probe.due(Growths.FULL_HOLES[k][n], "lasting", n, n, k);
            probe.due(-1, "lasting", -1, n, k);
            probe.due(-1, "lasting", 0, n + 1, k);
            probe.due(-1, "lasting", n + 1, n, k);
            probe.due(-1, "lasting", n + 1, n + 1, k);
            probe.due(-1, "lasting", 0, -1, k);
            probe.due(-1, "lasting", -1, -1, k);
        }
        if (n > 0) {
            probe.due(-1, "lasting", n, n - 1, 0);
            // The first point's hole lasts from 1 to the end, whatever comes.
            probe.due(1, "lasting", 1, n, 0);
        }
    }

    private static void lastingOfNoDimension() {
        CHECKS.sentence("Promise 9", "-2 if k is not in 0 .. 3");
        for (int n = 0; n <= Growths.MOST; n++) {
            for (int k : NO_DIMENSIONS) {
                refused(-2, n, "lasting", 0, 0, k);
                refused(-2, n, "lasting", 0, n, k);
                refused(-2, n, "lasting", n, n, k);
            }
        }
        Probe hollow = Probe.grown(CHECKS, Growths.HOLLOW);
        int[] lasting = {1, 0, 1, 0};
        for (int k = 0; k <= 3; k++) {
            hollow.due(lasting[k], "lasting", 14, 14, k);
        }
    }

    private static void opensOfNoNumber() {
        CHECKS.sentence("Promise 10", "-1 if i is not good");
        noNumberIsTaken("opens");
        for (int n = 1; n <= Growths.MOST; n++) {
            for (Probe probe : bothWaysTo(n)) {
                for (int i = 0; i < n; i++) {
                    probe.due(Growths.FULL_OPENS[i], "opens", i);
                }
            }
        }
    }

    private static void opensFromFirstToLast() {
        CHECKS.sentence("Promise 10", "1 if piece i opens a hole, 0 if it closes one");
        // The first number always opens; the last one of a full growth does, or does not.
        int[] lastOpens = {1, 1, 0, 0, 0};
        for (int g = 0; g < lastOpens.length; g++) {
            Probe probe = Probe.grown(CHECKS, Growths.FULL_ONES[g]);
            probe.due(1, "opens", 0);
            probe.due(lastOpens[g], "opens", 25);
        }
        // A piece that opened a hole has opened it, whether or not the hole is closed.
        Probe join = Probe.grown(CHECKS, Growths.LATE_JOIN);
        join.due(1, "opens", 1);
        join.due(33, "undo");
        join.due(1, "opens", 1);
    }

    private static void partnerOfNoNumber() {
        CHECKS.sentence("Promise 11", "-1 if i is not good");
        noNumberIsTaken("partner");
        for (int n = 1; n <= Growths.MOST; n++) {
            for (Probe probe : bothWaysTo(n)) {
                for (int i = 0; i < n; i++) {
                    int partner = Growths.FULL_PARTNERS[i];
                    // A partner that is not there yet, or no more, is none.
                    probe.due(partner < n ? partner : -2, "partner", i);
                }
            }
        }
    }

    private static void partnerOfNone() {
        CHECKS.sentence("Promise 11", "-2 if it has none");
        // The first piece never has one; of the points alone none has one.
        for (int[] growth : Growths.FULL_ONES) {
            for (int n = 1; n <= Growths.MOST; n++) {
                Probe.grown(CHECKS, Growths.first(n, growth)).due(-2, "partner", 0);
            }
        }
        Probe points = Probe.grown(CHECKS, Growths.POINTS);
        for (int i = 0; i < 6; i++) {
            points.due(-2, "partner", i);
        }
        // One of each dimension that can open a hole, before and after its partner, the last piece.
        int[][] growths = {Growths.LATE_JOIN, Growths.LATE_TRIANGLE, Growths.LATE_TETRAHEDRON};
        int[] openers = {1, 5, 13};
        for (int g = 0; g < growths.length; g++) {
            Probe probe = Probe.grown(CHECKS, Growths.first(25, growths[g]));
            probe.due(-2, "partner", openers[g]);
            probe.due(25, "add", growths[g][25]);
            probe.due(25, "partner", openers[g]);
            probe.due(openers[g], "partner", 25);
            probe.due(growths[g][25], "undo");
            probe.due(-2, "partner", openers[g]);
        }
    }

    private static void foreverOfNone() {
        CHECKS.sentence("Promise 12", "How many pieces of dimension k open holes and have no partner.");
        for (int n = 0; n <= Growths.MOST; n++) {
            for (Probe probe : bothWaysTo(n)) {
                for (int k = 0; k <= 3; k++) {
                    probe.due(Growths.FULL_HOLES[k][n], "forever", k);
                }
            }
        }
        for (int n = 0; n <= 6; n++) {
            Probe.grown(CHECKS, Growths.first(n, Growths.POINTS)).due(n, "forever", 0);
        }
        Probe tetrahedron = Probe.grown(CHECKS, Growths.LATE_TETRAHEDRON);
        tetrahedron.due(0, "forever", 2);
        tetrahedron.due(0, "forever", 3);
        tetrahedron.due(15, "undo");
        tetrahedron.due(1, "forever", 2);
        tetrahedron.due(0, "forever", 3);
    }

    private static void foreverOfNoDimension() {
        CHECKS.sentence("Promise 12", "-1 if k is not in 0 .. 3");
        for (int n = 0; n <= Growths.MOST; n++) {
            for (int k : NO_DIMENSIONS) {
                refused(-1, n, "forever", k);
            }
            for (Probe probe : bothWaysTo(n)) {
                probe.due(Growths.FULL_HOLES[0][n], "forever", 0);
                probe.due(0, "forever", 3);
            }
        }
    }

    private static void longestOfNone() {
        CHECKS.sentence("Promise 13", "0 if there are none");
        int[] firstPartnersAt = {3, 7, 15, Growths.MOST + 1};
        for (int n = 0; n <= Growths.MOST; n++) {
            for (Probe probe : bothWaysTo(n)) {
                for (int k = 0; k <= 3; k++) {
                    if (n < firstPartnersAt[k]) {
                        probe.due(0, "longest", k);
                    } else if (n == firstPartnersAt[k]) {
                        probe.due(1, "longest", k);
                    }
                }
            }
        }
        // Holes that nothing has closed do not count, however old they are.
        int[][] growths = {Growths.LATE_JOIN, Growths.LATE_TRIANGLE, Growths.LATE_TETRAHEDRON};
        int[] longestOfOthers = {1, 6, 0};
        for (int k = 0; k < growths.length; k++) {
            Probe.undone(CHECKS, 25, growths[k]).due(longestOfOthers[k], "longest", k);
        }
        Probe points = Probe.grown(CHECKS, Growths.POINTS);
        points.due(0, "longest", 0);
        points.due(6, "add", 3);
        points.due(5, "longest", 0);
        points.due(3, "undo");
        points.due(0, "longest", 0);
    }

    private static void longestDifference() {
        CHECKS.sentence("Promise 13", "The greatest difference of the numbers of two partners");
        // No two partners in 26 pieces can be farther apart.
        Probe.grown(CHECKS, Growths.LATE_JOIN).due(24, "longest", 0);
        Probe.grown(CHECKS, Growths.LATE_TRIANGLE).due(20, "longest", 1);
        Probe.grown(CHECKS, Growths.LATE_TETRAHEDRON).due(12, "longest", 2);
        Probe.grown(CHECKS, Growths.LATE_TETRAHEDRON).due(0, "longest", 3);
    }

    private static void longestOfNoDimension() {
        CHECKS.sentence("Promise 13", "-1 if k is not in 0 .. 3");
        for (int n = 0; n <= Growths.MOST; n++) {
            for (int k : NO_DIMENSIONS) {
                refused(-1, n, "longest", k);
            }
        }
        Probe.grown(CHECKS, Growths.LATE_JOIN).due(24, "longest", 0);
        Probe.grown(CHECKS, Growths.FULL).due(0, "longest", 3);
        new Probe(CHECKS).due(0, "longest", 3);
    }

    private static void eulerAtNoTime() {
        CHECKS.sentence("Promise 14", "-1000 if t is not in 0 .. size()");
        for (int n = 0; n <= Growths.MOST; n++) {
            for (int t : Ints.outside(0, n)) {
                refused(-1000, n, "euler", t);
            }
            for (Probe probe : bothWaysTo(n)) {
                for (int t = 0; t <= n; t++) {
                    probe.due(Growths.FULL_EULER[t], "euler", t);
                }
                probe.due(-1000, "euler", -1);
                probe.due(-1000, "euler", n + 1);
            }
        }
    }

    private static void eulerOfEachDimension() {
        CHECKS.sentence("Promise 14", "of 1 for even and -1 for odd dimensions");
        new Probe(CHECKS).due(0, "euler", 0);
        int[] sums = {0, 1, 2, 3, 4, 3, 2, 1, 0, -1, -2, -1, 0, 1, 2};
        Probe hollow = Probe.grown(CHECKS, Growths.HOLLOW);
        for (int t = 0; t < sums.length; t++) {
            hollow.due(sums[t], "euler", t);
        }
        hollow.due(14, "add", 15);
        hollow.due(1, "euler", 15);
        // The greatest and the least sum that six points allow.
        Probe.grown(CHECKS, Growths.POINTS).due(6, "euler", 6);
        Probe edges = Probe.grown(CHECKS,
                1, 2, 4, 8, 16, 32, 3, 5, 6, 9, 10, 12, 17, 18, 20, 24, 33, 34, 36, 40, 48);
        edges.due(-9, "euler", 21);
        edges.due(-1000, "euler", 22);
    }
}
