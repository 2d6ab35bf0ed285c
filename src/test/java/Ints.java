import java.util.Set;
import java.util.TreeSet;

/** Arguments at and beyond the ends of a range. */
final class Ints {
    static final int LOW = Integer.MIN_VALUE;
    static final int HIGH = Integer.MAX_VALUE;

    private Ints() {
    }

    /**
     * Numbers outside first .. last: the nearest and the farthest on either side, and such as
     * would come inside if a sign, a high bit or a carry were lost on the way.
     */
    static int[] outside(int first, int last) {
        Set<Integer> found = new TreeSet<>();
        int[] starts = {first, first + 1, first + (last - first) / 2, last - 1, last, -1, 0, LOW, HIGH};
        for (int start : starts) {
            found.add(start);
            for (int bit = 0; bit < 32; bit++) {
                found.add(start + (1 << bit));
                found.add(start - (1 << bit));
            }
        }
        found.removeIf(number -> number >= first && number <= last);
        return found.stream().mapToInt(Integer::intValue).toArray();
    }
}
