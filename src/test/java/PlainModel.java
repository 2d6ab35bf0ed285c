import java.util.ArrayList;
import java.util.Arrays;
import java.util.List;

/**
 * The document's words taken literally: it goes through every chain of the growth, so that
 * it shares no idea with the program that it is compared with.
 */
final class PlainModel {
    private static final int MOST = 26;
    private static final int NEVER = MOST + 1;

    private final List<Integer> growth = new ArrayList<>();

    // Tables of the growth as it stands, made anew when it has changed.
    private boolean current = false;
    private final List<List<Integer>> numbers = new ArrayList<>();
    // lasting[k][i][j] for 0 <= i <= j <= size.
    private final int[][][] lasting = new int[4][MOST + 1][MOST + 1];
    // For each dimension, by chain (one bit per piece of that dimension, in their order):
    // the first t at which the chain is the border of a chain in the shape at t.
    private final int[][] borderFrom = new int[4][];

    int add(int piece) {
        if (piece < 1 || piece > 63 || Integer.bitCount(piece) > 4) {
            return -1;
        }
        if (growth.contains(piece)) {
            return -2;
        }
        if (!growth.containsAll(sides(piece))) {
            return -3;
        }
        if (growth.size() == MOST) {
            return -4;
        }
        growth.add(piece);
        current = false;
        return growth.size() - 1;
    }

    int fill(int piece) {
        if (piece < 1 || piece > 63 || Integer.bitCount(piece) > 4) {
            return -1;
        }
        List<Integer> grown = new ArrayList<>(growth);
        for (int set = 1; set < 64; set++) {
            if ((set | piece) == piece && !grown.contains(set)) {
                grown.add(set);
            }
        }
        if (grown.size() > MOST) {
            return -2;
        }
        growth.clear();
        growth.addAll(grown);
        current = false;
        return growth.size();
    }

    int undo() {
        if (growth.isEmpty()) {
            return -1;
        }
        current = false;
        return growth.remove(growth.size() - 1);
    }

    int size() {
        return growth.size();
    }

    int piece(int i) {
        return good(i) ? growth.get(i) : -1;
    }

    int pieces(int t, int k) {
        if (t < 0 || t > size()) {
            return -1;
        }
        if (k < 0 || k > 3) {
            return -2;
        }
        return (int) growth.subList(0, t).stream().filter(p -> Integer.bitCount(p) == k + 1).count();
    }

    int holes(int t, int k) {
        if (t < 0 || t > size()) {
            return -1;
        }
        return k < 0 || k > 3 ? -2 : lastingHoles(t, t, k);
    }

    int lasting(int i, int j, int k) {
        if (!(0 <= i && i <= j && j <= size())) {
            return -1;
        }
        return k < 0 || k > 3 ? -2 : lastingHoles(i, j, k);
    }

    int opens(int i) {
        if (!good(i)) {
            return -1;
        }
        int k = dimension(i);
        return lastingHoles(i + 1, i + 1, k) - lastingHoles(i, i, k);
    }

    int partner(int i) {
        if (!good(i)) {
            return -1;
        }
        for (int other = 0; other < size(); other++) {
            if (arePartners(i, other) || arePartners(other, i)) {
                return other;
            }
        }
        return -2;
    }

    int forever(int k) {
        if (k < 0 || k > 3) {
            return -1;
        }
        int found = 0;
        for (int i = 0; i < size(); i++) {
            if (dimension(i) == k && opens(i) == 1 && partner(i) == -2) {
                found++;
            }
        }
        return found;
    }

    int longest(int k) {
        if (k < 0 || k > 3) {
            return -1;
        }
        int greatest = 0;
        for (int i = 0; i < size(); i++) {
            for (int j = i + 1; j < size(); j++) {
                if (dimension(i) == k && arePartners(i, j)) {
                    greatest = Math.max(greatest, j - i);
                }
            }
        }
        return greatest;
    }

    int euler(int t) {
        if (t < 0 || t > size()) {
            return -1000;
        }
        return pieces(t, 0) - pieces(t, 1) + pieces(t, 2) - pieces(t, 3);
    }

    int border(int chain) {
        if (chain < 0 || chain > (1L << size()) - 1) {
            return -1;
        }
        List<Integer> members = members(chain);
        if (members.stream().map(this::dimension).distinct().count() > 1) {
            return -2;
        }
        int border = 0;
        for (int i = 0; i < size(); i++) {
            int times = 0;
            for (int member : members) {
                if (sides(growth.get(member)).contains(growth.get(i))) {
                    times++;
                }
            }
            if (times % 2 == 1) {
                border |= 1 << i;
            }
        }
        return border;
    }

    int bounds(int chain) {
        int border = border(chain);
        if (border < 0) {
            return border;
        }
        if (border != 0) {
            return 2;
        }
        if (chain == 0) {
            return 1;
        }
        refresh();
        int k = dimension(members(chain).get(0));
        return borderFrom[k][packed(chain, k)] <= size() ? 1 : 0;
    }

    private boolean good(int i) {
        return i >= 0 && i < size();
    }

    private int dimension(int i) {
        return Integer.bitCount(growth.get(i)) - 1;
    }

    private static List<Integer> sides(int piece) {
        List<Integer> sides = new ArrayList<>();
        for (int set = 1; set < 64; set++) {
            if ((set | piece) == piece && Integer.bitCount(set) == Integer.bitCount(piece) - 1) {
                sides.add(set);
            }
        }
        return sides;
    }

    private List<Integer> members(int chain) {
        List<Integer> members = new ArrayList<>();
        for (int i = 0; i < size(); i++) {
            if ((chain & 1 << i) != 0) {
                members.add(i);
            }
        }
        return members;
    }

    private boolean arePartners(int i, int j) {
        if (j <= i || dimension(j) != dimension(i) + 1 || opens(i) != 1 || opens(j) != 0) {
            return false;
        }
        int k = dimension(i);
        return lastingHoles(i + 1, j, k) - lastingHoles(i + 1, j + 1, k)
                - lastingHoles(i, j, k) + lastingHoles(i, j + 1, k) == 1;
    }

    private int lastingHoles(int i, int j, int k) {
        if (i > j) {
            throw new IllegalArgumentException("lasting holes from " + i + " to " + j);
        }
        refresh();
        return lasting[k][i][j];
    }

    /** A chain of dimension k with one bit per piece of that dimension. */
    private int packed(int chain, int k) {
        int packed = 0;
        for (int bit = 0; bit < numbers.get(k).size(); bit++) {
            if ((chain & 1 << numbers.get(k).get(bit)) != 0) {
                packed |= 1 << bit;
            }
        }
        return packed;
    }

    private void refresh() {
        if (current) {
            return;
        }
        current = true;
        numbers.clear();
        for (int k = 0; k <= 3; k++) {
            numbers.add(new ArrayList<>());
        }
        for (int i = 0; i < size(); i++) {
            numbers.get(dimension(i)).add(i);
        }
        for (int k = 0; k <= 3; k++) {
            findBorders(k);
            countLasting(k);
        }
    }

    /** Goes through all chains of dimension k + 1 for the borders among the chains of dimension k. */
    private void findBorders(int k) {
        borderFrom[k] = new int[1 << numbers.get(k).size()];
        Arrays.fill(borderFrom[k], NEVER);
        borderFrom[k][0] = 0;
        if (k == 3) {
            return;
        }
        int[] borders = packedBorders(k + 1);
        for (int chain = 1; chain < borders.length; chain++) {
            int at = borders[chain];
            borderFrom[k][at] = Math.min(borderFrom[k][at], firstTime(chain, k + 1));
        }
    }

    /** The borders of all chains of dimension k > 0, both packed. */
    private int[] packedBorders(int k) {
        int[] borders = new int[1 << numbers.get(k).size()];
        for (int chain = 1; chain < borders.length; chain++) {
            int first = Integer.numberOfTrailingZeros(chain);
            int rest = chain & (chain - 1);
            borders[chain] = rest != 0
                    ? borders[rest] ^ borders[1 << first]
                    : packed(border(1 << numbers.get(k).get(first)), k - 1);
        }
        return borders;
    }

    /** The first t such that a packed chain is in the shape at t. */
    private int firstTime(int chain, int k) {
        return chain == 0 ? 0 : numbers.get(k).get(31 - Integer.numberOfLeadingZeros(chain)) + 1;
    }

    /** The cycles at i, and those of them that are borders at j, are powers of two in number. */
    private void countLasting(int k) {
        int[] borders = k == 0 ? null : packedBorders(k);
        int[] cyclesFrom = new int[MOST + 1];
        int[][] bordersFrom = new int[MOST + 1][MOST + 1];
        for (int chain = 0; chain < borderFrom[k].length; chain++) {
            if (k == 0 || borders[chain] == 0) {
                int time = firstTime(chain, k);
                cyclesFrom[time]++;
                if (borderFrom[k][chain] != NEVER) {
                    bordersFrom[time][borderFrom[k][chain]]++;
                }
            }
        }
        for (int i = 0; i <= size(); i++) {
            for (int j = i; j <= size(); j++) {
                lasting[k][i][j] = holesLeft(i, j, cyclesFrom, bordersFrom);
            }
        }
    }

    private static int holesLeft(int i, int j, int[] cyclesFrom, int[][] bordersFrom) {
        int cycles = 0;
        int closed = 0;
        for (int a = 0; a <= i; a++) {
            cycles += cyclesFrom[a];
            for (int b = 0; b <= j; b++) {
                closed += bordersFrom[a][b];
            }
        }
        if (Integer.bitCount(cycles) != 1 || Integer.bitCount(closed) != 1) {
            throw new IllegalStateException(cycles + " cycles, " + closed + " closed");
        }
        return Integer.numberOfTrailingZeros(cycles) - Integer.numberOfTrailingZeros(closed);
    }
}
