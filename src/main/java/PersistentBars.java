/** A shape that grows piece by piece, and how long its holes last. */
public final class PersistentBars {
    private static final int POINTS = 6;
    private static final int ALL_POINTS = 63;
    private static final int MOST_POINTS_IN_PIECE = 4;
    private static final int TOP_DIMENSION = 3;
    private static final int MOST_PIECES = 26;
    private static final int NONE = -1;

    private final int[] growth = new int[MOST_PIECES];

    // The sides of each piece, as a chain.
    private final int[] borders = new int[MOST_PIECES];

    // For each piece that closes: the border of some chain whose last piece it is,
    // chosen so that the border's own last piece is the partner. The partners all differ,
    // so these borders are independent, and together they span all borders of the growth.
    private final int[] closedCycles = new int[MOST_PIECES];

    // NONE without a partner. A piece closes just if its partner comes before it.
    private final int[] partners = new int[MOST_PIECES];

    private int count;

    public PersistentBars() {
        count = 0;
    }

    public int add(int piece) {
        if (!isPiece(piece)) {
            return -1;
        }
        if (numberOf(piece) != NONE) {
            return -2;
        }
        if (sidesOf(piece) == NONE) {
            return -3;
        }
        if (count >= MOST_PIECES) {
            return -4;
        }
        append(piece);
        return count - 1;
    }

    public int fill(int piece) {
        if (!isPiece(piece)) {
            return -1;
        }
        if (count + missingWithin(piece) > MOST_PIECES) {
            return -2;
        }
        // A set's number is greater than those of its sides, so the sides always come first.
        for (int set = 1; set <= piece; set++) {
            if (isMissingWithin(set, piece)) {
                append(set);
            }
        }
        return count;
    }

    public int undo() {
        if (count <= 0) {
            return -1;
        }
        count--;
        int former = partners[count];
        if (isNumber(former)) {
            partners[former] = NONE;
        }
        return growth[count];
    }

    public int size() {
        return count;
    }

    public int piece(int i) {
        return isNumber(i) ? growth[i] : -1;
    }

    public int pieces(int t, int k) {
        if (!isTime(t)) {
            return -1;
        }
        return isDimension(k) ? countPieces(t, k) : -2;
    }

    public int holes(int t, int k) {
        if (!isTime(t)) {
            return -1;
        }
        return isDimension(k) ? countLasting(t, t, k) : -2;
    }

    public int lasting(int i, int j, int k) {
        if (i < 0 || i > j || j > count) {
            return -1;
        }
        return isDimension(k) ? countLasting(i, j, k) : -2;
    }

    public int opens(int i) {
        if (!isNumber(i)) {
            return -1;
        }
        return partners[i] == NONE || partners[i] > i ? 1 : 0;
    }

    public int partner(int i) {
        if (!isNumber(i)) {
            return -1;
        }
        return partners[i] == NONE ? -2 : partners[i];
    }

    public int forever(int k) {
        return isDimension(k) ? countLasting(count, count, k) : -1;
    }

    public int longest(int k) {
        if (!isDimension(k)) {
            return -1;
        }
        int greatest = 0;
        for (int i = 0; i < count; i++) {
            // For a piece that closes or has no partner the difference is below 0.
            int difference = partners[i] - i;
            if (difference > greatest && dimensionOf(growth[i]) == k) {
                greatest = difference;
            }
        }
        return greatest;
    }

    public int euler(int t) {
        if (!isTime(t)) {
            return -1000;
        }
        int sum = 0;
        for (int i = 0; i < t; i++) {
            sum += dimensionOf(growth[i]) % 2 == 0 ? 1 : -1;
        }
        return sum;
    }

    public int border(int chain) {
        if (!isSetOfNumbers(chain)) {
            return -1;
        }
        return isOfOneDimension(chain) ? borderOf(chain) : -2;
    }

    public int bounds(int chain) {
        if (!isSetOfNumbers(chain)) {
            return -1;
        }
        if (!isOfOneDimension(chain)) {
            return -2;
        }
        if (borderOf(chain) != 0) {
            return 2;
        }
        return withoutBorders(chain) == 0 ? 1 : 0;
    }

    private boolean isNumber(int i) {
        return i >= 0 && i < count;
    }

    private boolean isTime(int t) {
        return t >= 0 && t <= count;
    }

    private static boolean isDimension(int k) {
        return k >= 0 && k <= TOP_DIMENSION;
    }

    private static boolean isPiece(int set) {
        return set >= 1 && set <= ALL_POINTS && pointsIn(set) <= MOST_POINTS_IN_PIECE;
    }

    private static int pointsIn(int set) {
        int points = 0;
        for (int p = 0; p < POINTS; p++) {
            points += (set >> p) & 1;
        }
        return points;
    }

    private static int dimensionOf(int piece) {
        return pointsIn(piece) - 1;
    }

    private int numberOf(int piece) {
        for (int i = 0; i < count; i++) {
            if (growth[i] == piece) {
                return i;
            }
        }
        return NONE;
    }

    /** The sides of a piece as a chain; NONE if one of them is not in the growth. */
    private int sidesOf(int piece) {
        int sides = 0;
        for (int p = 0; p < POINTS; p++) {
            int side = piece & ~(1 << p);
            // A single point has no sides: the empty set is not one.
            if (side != piece && side != 0) {
                int number = numberOf(side);
                if (number == NONE) {
                    return NONE;
                }
                sides |= 1 << number;
            }
        }
        return sides;
    }

    private boolean isMissingWithin(int set, int piece) {
        return (set & ~piece) == 0 && numberOf(set) == NONE;
    }

    private int missingWithin(int piece) {
        int missing = 0;
        for (int set = 1; set <= piece; set++) {
            if (isMissingWithin(set, piece)) {
                missing++;
            }
        }
        return missing;
    }

    /** The caller has seen that there is room and that all sides are in the growth. */
    private void append(int piece) {
        int number = count;
        growth[number] = piece;
        borders[number] = sidesOf(piece);
        // What is left of the new border is a cycle that was not closed before and is now:
        // the hole that ends is the one that the cycle's last piece opened.
        int cycle = withoutBorders(borders[number]);
        int opener = lastOf(cycle);
        closedCycles[number] = cycle;
        partners[number] = opener;
        if (isNumber(opener)) {
            partners[opener] = number;
        }
        count++;
    }

    /**
     * A chain plus such borders of the growth that no piece with a closing partner is left.
     * Borders only have pieces up to the one they are filed under, so going down once is enough;
     * a cycle is left empty just if it is a border.
     */
    private int withoutBorders(int chain) {
        int rest = chain;
        for (int i = count - 1; i >= 0; i--) {
            int partner = partners[i];
            if (has(rest, i) && isNumber(partner) && partner > i) {
                rest ^= closedCycles[partner];
            }
        }
        return rest;
    }

    private static boolean has(int chain, int i) {
        return ((chain >> i) & 1) == 1;
    }

    private static int lastOf(int chain) {
        for (int i = MOST_PIECES - 1; i >= 0; i--) {
            if (has(chain, i)) {
                return i;
            }
        }
        return NONE;
    }

    private int countPieces(int t, int k) {
        int found = 0;
        for (int i = 0; i < t; i++) {
            if (dimensionOf(growth[i]) == k) {
                found++;
            }
        }
        return found;
    }

    private int countLasting(int from, int to, int k) {
        int found = 0;
        for (int i = 0; i < from; i++) {
            // The partner of a piece that closes comes before i, so before to: it is not counted.
            boolean lasts = partners[i] == NONE || partners[i] >= to;
            if (lasts && dimensionOf(growth[i]) == k) {
                found++;
            }
        }
        return found;
    }

    private boolean isSetOfNumbers(int chain) {
        return chain >= 0 && chain < 1 << count;
    }

    private boolean isOfOneDimension(int chain) {
        int dimension = NONE;
        for (int i = 0; i < count; i++) {
            if (has(chain, i)) {
                int own = dimensionOf(growth[i]);
                if (dimension != NONE && dimension != own) {
                    return false;
                }
                dimension = own;
            }
        }
        return true;
    }

    private int borderOf(int chain) {
        int sum = 0;
        for (int i = 0; i < count; i++) {
            if (has(chain, i)) {
                sum ^= borders[i];
            }
        }
        return sum;
    }
}
