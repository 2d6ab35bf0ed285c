import java.util.ArrayList;
import java.util.Arrays;
import java.util.List;

/** Growths that the tests begin with, each with what was worked out of it by hand. */
final class Growths {
    static final int MOST = 26;

    static final int[] POINTS = {1, 2, 4, 8, 16, 32};

    /** Four points, the four edges of a square (4 .. 7), a diagonal (8), two triangles (9, 10). */
    static final int[] SQUARE = {1, 2, 4, 8, 3, 6, 12, 9, 5, 7, 13};

    /** The four faces of a tetrahedron without its inside. */
    static final int[] HOLLOW = {1, 2, 4, 8, 3, 5, 6, 9, 10, 12, 7, 11, 13, 14};

    /** 26 pieces: a tetrahedron, the two points left, and all edges that meet them. */
    static final int[] FULL = {
        1, 2, 3, 4, 5, 6, 7, 8, 9, 10, 11, 12, 13, 14, 15,
        16, 32, 17, 18, 20, 24, 33, 34, 36, 40, 48
    };
    static final int[] FULL_PARTNERS = {
        -2, 2, 1, 4, 3, 6, 5, 8, 7, 10, 9, 12, 11, 14, 13,
        17, 21, 15, -2, -2, -2, 16, -2, -2, -2, -2
    };
    static final int[] FULL_OPENS = {
        1, 1, 0, 1, 0, 1, 0, 1, 0, 1, 0, 1, 0, 1, 0,
        1, 1, 0, 1, 1, 1, 0, 1, 1, 1, 1
    };
    /** By dimension, then by t. */
    static final int[][] FULL_HOLES = {
        {0, 1, 2, 1, 2, 1, 1, 1, 2, 1, 1, 1, 1, 1, 1, 1, 2, 3, 2, 2, 2, 2, 1, 1, 1, 1, 1},
        {0, 0, 0, 0, 0, 0, 1, 0, 0, 0, 1, 0, 1, 0, 0, 0, 0, 0, 0, 1, 2, 3, 3, 4, 5, 6, 7},
        {0, 0, 0, 0, 0, 0, 0, 0, 0, 0, 0, 0, 0, 0, 1, 0, 0, 0, 0, 0, 0, 0, 0, 0, 0, 0, 0},
        {0, 0, 0, 0, 0, 0, 0, 0, 0, 0, 0, 0, 0, 0, 0, 0, 0, 0, 0, 0, 0, 0, 0, 0, 0, 0, 0}
    };
    static final int[] FULL_EULER = {
        0, 1, 2, 1, 2, 1, 0, 1, 2, 1, 0, 1, 0, 1, 2, 1,
        2, 3, 2, 1, 0, -1, -2, -3, -4, -5, -6
    };

    /** 26 pieces without the point 5: piece number i is i + 1. */
    static final int[] FIVE_POINTS = {
        1, 2, 3, 4, 5, 6, 7, 8, 9, 10, 11, 12, 13, 14, 15,
        16, 17, 18, 19, 20, 21, 22, 23, 24, 25, 26
    };

    /** 26 pieces: the second point, number 1, is joined to the others by the last piece. */
    static final int[] LATE_JOIN = {
        1, 32, 2, 3, 4, 5, 6, 7, 8, 9, 10, 11, 12, 13, 14, 15,
        16, 17, 18, 19, 20, 21, 22, 23, 24, 33
    };

    /** 26 pieces: a loop that piece 5 opens, as early as can be, is closed by the last piece. */
    static final int[] LATE_TRIANGLE = {
        1, 2, 4, 3, 5, 6, 8, 16, 32, 9, 10, 12, 17, 18, 20, 24, 33, 34, 36, 40, 48,
        25, 41, 49, 56, 7
    };

    /** 26 pieces: a hollow that piece 13 opens, as early as can be, is closed by the last piece. */
    static final int[] LATE_TETRAHEDRON = {
        1, 2, 4, 8, 3, 5, 6, 9, 10, 12, 7, 11, 13, 14, 16, 32, 17, 18, 20, 24, 33, 34, 36, 40, 48, 15
    };

    static final int[][] FULL_ONES = {FULL, FIVE_POINTS, LATE_JOIN, LATE_TRIANGLE, LATE_TETRAHEDRON};

    private Growths() {
    }

    static int[] first(int n, int... growth) {
        return Arrays.copyOf(growth, n);
    }

    /** All sets of one to four of the six points. */
    static List<Integer> allPieces() {
        List<Integer> pieces = new ArrayList<>();
        for (int set = 1; set <= 63; set++) {
            if (Integer.bitCount(set) <= 4) {
                pieces.add(set);
            }
        }
        return pieces;
    }

    static List<Integer> sides(int piece) {
        List<Integer> sides = new ArrayList<>();
        for (int side : allPieces()) {
            if ((side | piece) == piece && Integer.bitCount(side) == Integer.bitCount(piece) - 1) {
                sides.add(side);
            }
        }
        return sides;
    }

    static int dimension(int piece) {
        return Integer.bitCount(piece) - 1;
    }

    /** The sum of 2^i over the numbers of those pieces of the growth that are in the list. */
    static int chain(int[] growth, List<Integer> pieces) {
        int chain = 0;
        for (int i = 0; i < growth.length; i++) {
            if (pieces.contains(growth[i])) {
                chain |= 1 << i;
            }
        }
        return chain;
    }
}
