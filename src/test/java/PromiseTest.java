/**
 * Each promise by itself, with answers worked out by hand: mostly ordinary inputs, and some
 * wrong ones. The boundary cases have tests of their own.
 */
public final class PromiseTest {
    private static final int LOW = Integer.MIN_VALUE;
    private static final int HIGH = Integer.MAX_VALUE;
    private static final int[] NO_PIECES = {LOW, -1, 0, 31, 47, 55, 59, 61, 62, 63, 64, 65, 127, HIGH};
    private static final int[] NO_DIMENSIONS = {LOW, -1, 4, HIGH};

    private static final Checks CHECKS = new Checks();

    public static void main(String[] args) {
        newObject();
        add();
        addToFull();
        addTestsInOrder();
        fill();
        fillToTheLimit();
        undo();
        undoBringsBack();
        size();
        piece();
        pieces();
        holes();
        holesOfAllDimensions();
        lasting();
        opens();
        partner();
        partnerIsNotAlwaysASide();
        forever();
        longest();
        euler();
        border();
        bounds();
        CHECKS.end();
    }

    private static void due(String call, int got, int want) {
        CHECKS.due(call, got, want);
    }

    private static PersistentBars grown(int... pieces) {
        PersistentBars bars = new PersistentBars();
        for (int i = 0; i < pieces.length; i++) {
            due("add(" + pieces[i] + ")", bars.add(pieces[i]), i);
        }
        return bars;
    }

    private static PersistentBars square() {
        return grown(Growths.SQUARE);
    }

    private static PersistentBars hollow() {
        return grown(Growths.HOLLOW);
    }

    private static PersistentBars full() {
        return grown(Growths.FULL);
    }

    private static void newObject() {
        PersistentBars bars = new PersistentBars();
        due("new size()", bars.size(), 0);
        due("new piece(0)", bars.piece(0), -1);
        due("new undo()", bars.undo(), -1);
        due("new opens(0)", bars.opens(0), -1);
        due("new partner(0)", bars.partner(0), -1);
        due("new euler(0)", bars.euler(0), 0);
        due("new euler(1)", bars.euler(1), -1000);
        due("new border(0)", bars.border(0), 0);
        due("new border(1)", bars.border(1), -1);
        due("new bounds(0)", bars.bounds(0), 1);
        due("new bounds(1)", bars.bounds(1), -1);
        for (int k = 0; k <= 3; k++) {
            due("new pieces(0, k)", bars.pieces(0, k), 0);
            due("new pieces(1, k)", bars.pieces(1, k), -1);
            due("new holes(0, k)", bars.holes(0, k), 0);
            due("new lasting(0, 0, k)", bars.lasting(0, 0, k), 0);
            due("new forever(k)", bars.forever(k), 0);
            due("new longest(k)", bars.longest(k), 0);
        }
    }

    private static void add() {
        PersistentBars bars = new PersistentBars();
        for (int wrong : NO_PIECES) {
            due("add(" + wrong + ")", bars.add(wrong), -1);
        }
        due("size() after refused add", bars.size(), 0);
        due("add(32)", bars.add(32), 0);
        due("add(32) again", bars.add(32), -2);
        due("add(33) without 1", bars.add(33), -3);
        due("add(1)", bars.add(1), 1);
        due("add(33)", bars.add(33), 2);
        due("add(33) again", bars.add(33), -2);
        due("add(2)", bars.add(2), 3);
        due("add(35) without 3 and 34", bars.add(35), -3);
        due("add(3)", bars.add(3), 4);
        due("add(35) without 34", bars.add(35), -3);
        due("add(34)", bars.add(34), 5);
        due("add(35)", bars.add(35), 6);
        due("size()", bars.size(), 7);

        PersistentBars tetrahedron = hollow();
        due("add(15) with all sides", tetrahedron.add(15), 14);
        due("undo()", tetrahedron.undo(), 15);
        due("undo()", tetrahedron.undo(), 14);
        due("add(15) without 14", tetrahedron.add(15), -3);
    }

    private static void addToFull() {
        PersistentBars bars = full();
        due("add(19) to 26", bars.add(19), -4);
        due("add(49) to 26", bars.add(49), -4);
        due("size() of the full", bars.size(), 26);
        due("undo()", bars.undo(), 48);
        due("add(19) to 25", bars.add(19), 25);
        due("add(48) to 26", bars.add(48), -4);
    }

    private static void addTestsInOrder() {
        PersistentBars bars = full();
        due("add(31) to 26: no piece first", bars.add(31), -1);
        due("add(1) to 26: there first", bars.add(1), -2);
        due("add(15) to 26: there first", bars.add(15), -2);
        due("add(51) to 26: sides first", bars.add(51), -3);
        due("size()", bars.size(), 26);
    }

    private static void fill() {
        PersistentBars bars = new PersistentBars();
        for (int wrong : NO_PIECES) {
            due("fill(" + wrong + ")", bars.fill(wrong), -1);
        }
        due("size() after refused fill", bars.size(), 0);
        due("fill(4)", bars.fill(4), 1);
        due("fill(4) again", bars.fill(4), 1);
        due("fill(22)", bars.fill(22), 7);
        int[] order = {4, 2, 6, 16, 18, 20, 22};
        for (int i = 0; i < order.length; i++) {
            due("piece(" + i + ") after fill", bars.piece(i), order[i]);
        }
        due("fill(6), there already", bars.fill(6), 7);
        due("fill(60)", bars.fill(60), 19);
        int[] next = {8, 12, 24, 28, 32, 36, 40, 44, 48, 52, 56, 60};
        for (int i = 0; i < next.length; i++) {
            due("piece(" + (7 + i) + ") after fill(60)", bars.piece(7 + i), next[i]);
        }
    }

    private static void fillToTheLimit() {
        PersistentBars bars = full();
        due("fill(15) of 26", bars.fill(15), 26);
        due("fill(48) of 26", bars.fill(48), 26);
        due("fill(49) of 26", bars.fill(49), -2);
        due("fill(63) of 26", bars.fill(63), -1);
        due("undo()", bars.undo(), 48);
        due("fill(49) of 25, two missing", bars.fill(49), -2);
        due("size() after refused fill", bars.size(), 25);
        due("undo()", bars.undo(), 40);
        due("fill(49) of 24, two missing", bars.fill(49), 26);
        due("piece(24)", bars.piece(24), 48);
        due("piece(25)", bars.piece(25), 49);
    }

    private static void undo() {
        PersistentBars bars = grown(1, 2, 3);
        due("undo()", bars.undo(), 3);
        due("size()", bars.size(), 2);
        due("undo()", bars.undo(), 2);
        due("add(3) after undo", bars.add(3), -3);
        due("undo()", bars.undo(), 1);
        due("undo() of nothing", bars.undo(), -1);
        due("undo() of nothing", bars.undo(), -1);
        due("size()", bars.size(), 0);
        due("add(3) of nothing", bars.add(3), -3);
        due("add(2)", bars.add(2), 0);
    }

    /** Taking away a piece that closes opens its hole again, and others may close it then. */
    private static void undoBringsBack() {
        PersistentBars bars = grown(1, 2, 4, 3, 5);
        due("partner(1)", bars.partner(1), 3);
        due("partner(2)", bars.partner(2), 4);
        due("undo()", bars.undo(), 5);
        due("partner(2) after undo", bars.partner(2), -2);
        due("forever(0) after undo", bars.forever(0), 2);
        due("partner(1) after undo", bars.partner(1), 3);
        due("add(8)", bars.add(8), 4);
        due("opens(4)", bars.opens(4), 1);
        due("add(6)", bars.add(6), 5);
        due("partner(2)", bars.partner(2), 5);
        due("partner(4)", bars.partner(4), -2);

        PersistentBars filled = square();
        due("undo()", filled.undo(), 13);
        due("undo()", filled.undo(), 7);
        due("partner(8) after undo", filled.partner(8), -2);
        due("bounds(304) after undo", filled.bounds(304), 0);
        due("add(13)", filled.add(13), 9);
        due("partner(8) with the other triangle", filled.partner(8), 9);
        due("bounds(304) with the other triangle", filled.bounds(304), 0);
        due("bounds(448) with the other triangle", filled.bounds(448), 1);
    }

    private static void size() {
        PersistentBars bars = new PersistentBars();
        bars.add(8);
        due("size() after add", bars.size(), 1);
        bars.add(8);
        due("size() after refused add", bars.size(), 1);
        bars.fill(11);
        due("size() after fill", bars.size(), 7);
        bars.undo();
        due("size() after undo", bars.size(), 6);
        due("size() of the full", full().size(), 26);
    }

    private static void piece() {
        PersistentBars bars = grown(32, 1, 33);
        due("piece(0)", bars.piece(0), 32);
        due("piece(1)", bars.piece(1), 1);
        due("piece(2)", bars.piece(2), 33);
        for (int wrong : new int[] {LOW, -1, 3, 26, HIGH}) {
            due("piece(" + wrong + ")", bars.piece(wrong), -1);
        }
        bars.undo();
        due("piece(2) after undo", bars.piece(2), -1);
        due("piece(25) of the full", full().piece(25), 48);
        due("piece(26) of the full", full().piece(26), -1);
    }

    private static void pieces() {
        PersistentBars bars = new PersistentBars();
        bars.fill(15);
        int[] whole = {4, 6, 4, 1};
        int[] atSeven = {3, 3, 1, 0};
        for (int k = 0; k <= 3; k++) {
            due("pieces(15, " + k + ")", bars.pieces(15, k), whole[k]);
            due("pieces(14, " + k + ")", bars.pieces(14, k), k == 3 ? 0 : whole[k]);
            due("pieces(7, " + k + ")", bars.pieces(7, k), atSeven[k]);
            due("pieces(0, " + k + ")", bars.pieces(0, k), 0);
            for (int wrong : new int[] {LOW, -1, 16, HIGH}) {
                due("pieces(" + wrong + ", " + k + ")", bars.pieces(wrong, k), -1);
            }
        }
        for (int wrong : NO_DIMENSIONS) {
            due("pieces(7, " + wrong + ")", bars.pieces(7, wrong), -2);
            due("pieces(-1, " + wrong + ")", bars.pieces(-1, wrong), -1);
            due("pieces(16, " + wrong + ")", bars.pieces(16, wrong), -1);
        }
        due("pieces(26, 1) of the full", full().pieces(26, 1), 15);
    }

    private static void holes() {
        PersistentBars bars = square();
        int[] parts = {0, 1, 2, 3, 4, 3, 2, 1, 1, 1, 1, 1};
        int[] loops = {0, 0, 0, 0, 0, 0, 0, 0, 1, 2, 1, 0};
        for (int t = 0; t <= 11; t++) {
            due("holes(" + t + ", 0)", bars.holes(t, 0), parts[t]);
            due("holes(" + t + ", 1)", bars.holes(t, 1), loops[t]);
            due("holes(" + t + ", 2)", bars.holes(t, 2), 0);
            due("holes(" + t + ", 3)", bars.holes(t, 3), 0);
        }
        for (int wrong : new int[] {LOW, -1, 12, HIGH}) {
            due("holes(" + wrong + ", 0)", bars.holes(wrong, 0), -1);
            due("holes(" + wrong + ", 4)", bars.holes(wrong, 4), -1);
        }
        for (int wrong : NO_DIMENSIONS) {
            due("holes(11, " + wrong + ")", bars.holes(11, wrong), -2);
        }
    }

    private static void holesOfAllDimensions() {
        PersistentBars bars = hollow();
        due("holes(13, 2)", bars.holes(13, 2), 0);
        due("holes(14, 2)", bars.holes(14, 2), 1);
        due("add(15)", bars.add(15), 14);
        due("holes(14, 2) with more", bars.holes(14, 2), 1);
        due("holes(15, 2)", bars.holes(15, 2), 0);
        due("holes(15, 3)", bars.holes(15, 3), 0);
        // Six points in one part, 15 edges: 10 loops, three of which the tetrahedron has closed.
        due("holes(26, 0) of the full", full().holes(26, 0), 1);
        due("holes(26, 1) of the full", full().holes(26, 1), 7);
        due("holes(26, 2) of the full", full().holes(26, 2), 0);
    }

    private static void lasting() {
        PersistentBars bars = square();
        due("lasting(8, 8, 1)", bars.lasting(8, 8, 1), 1);
        due("lasting(8, 10, 1)", bars.lasting(8, 10, 1), 1);
        due("lasting(8, 11, 1)", bars.lasting(8, 11, 1), 0);
        due("lasting(9, 9, 1)", bars.lasting(9, 9, 1), 2);
        due("lasting(9, 10, 1)", bars.lasting(9, 10, 1), 1);
        due("lasting(9, 11, 1)", bars.lasting(9, 11, 1), 0);
        due("lasting(7, 9, 1)", bars.lasting(7, 9, 1), 0);
        due("lasting(4, 4, 0)", bars.lasting(4, 4, 0), 4);
        due("lasting(4, 5, 0)", bars.lasting(4, 5, 0), 3);
        due("lasting(4, 11, 0)", bars.lasting(4, 11, 0), 1);
        due("lasting(2, 4, 0)", bars.lasting(2, 4, 0), 2);
        due("lasting(2, 5, 0)", bars.lasting(2, 5, 0), 1);
        due("lasting(0, 11, 0)", bars.lasting(0, 11, 0), 0);
        due("lasting(11, 11, 0)", bars.lasting(11, 11, 0), 1);
        int[][] wrong = {{-1, 0}, {LOW, 3}, {3, 2}, {0, 12}, {12, 12}, {11, HIGH}, {HIGH, LOW}, {0, -1}};
        for (int[] pair : wrong) {
            String call = "lasting(" + pair[0] + ", " + pair[1];
            due(call + ", 0)", bars.lasting(pair[0], pair[1], 0), -1);
            due(call + ", 4)", bars.lasting(pair[0], pair[1], 4), -1);
        }
        for (int k : NO_DIMENSIONS) {
            due("lasting(0, 11, " + k + ")", bars.lasting(0, 11, k), -2);
        }
    }

    private static void opens() {
        PersistentBars bars = square();
        int[] opening = {1, 1, 1, 1, 0, 0, 0, 1, 1, 0, 0};
        for (int i = 0; i < opening.length; i++) {
            due("opens(" + i + ")", bars.opens(i), opening[i]);
        }
        for (int wrong : new int[] {LOW, -1, 11, 26, HIGH}) {
            due("opens(" + wrong + ")", bars.opens(wrong), -1);
        }
        PersistentBars tetrahedron = hollow();
        due("opens(12)", tetrahedron.opens(12), 0);
        due("opens(13)", tetrahedron.opens(13), 1);
        tetrahedron.add(15);
        due("opens(13) with its partner", tetrahedron.opens(13), 1);
        due("opens(14)", tetrahedron.opens(14), 0);
    }

    private static void partner() {
        PersistentBars bars = square();
        int[] partners = {-2, 4, 5, 6, 1, 2, 3, 10, 9, 8, 7};
        for (int i = 0; i < partners.length; i++) {
            due("partner(" + i + ")", bars.partner(i), partners[i]);
        }
        for (int wrong : new int[] {LOW, -1, 11, 26, HIGH}) {
            due("partner(" + wrong + ")", bars.partner(wrong), -1);
        }
    }

    private static void partnerIsNotAlwaysASide() {
        // The edge 6 joins two parts whose younger one began with point 1, no side of it.
        PersistentBars bars = grown(1, 8, 2, 4, 3, 12, 6);
        due("partner(4)", bars.partner(4), 2);
        due("partner(5)", bars.partner(5), 3);
        due("partner(6)", bars.partner(6), 1);
        due("partner(1)", bars.partner(1), 6);
        due("partner(0)", bars.partner(0), -2);
    }

    private static void forever() {
        PersistentBars bars = square();
        due("forever(0)", bars.forever(0), 1);
        due("forever(1)", bars.forever(1), 0);
        bars.undo();
        due("forever(1) after undo", bars.forever(1), 1);
        bars.undo();
        due("forever(1) after undo", bars.forever(1), 2);
        due("add(32)", bars.add(32), 9);
        due("forever(0) with a point apart", bars.forever(0), 2);
        due("forever(2) of the hollow", hollow().forever(2), 1);
        due("forever(3) of the hollow", hollow().forever(3), 0);
        due("forever(1) of the full", full().forever(1), 7);
        for (int wrong : NO_DIMENSIONS) {
            due("forever(" + wrong + ")", bars.forever(wrong), -1);
        }
    }

    private static void longest() {
        PersistentBars bars = square();
        due("longest(0)", bars.longest(0), 3);
        due("longest(1)", bars.longest(1), 3);
        due("longest(2)", bars.longest(2), 0);
        due("longest(3)", bars.longest(3), 0);
        bars.undo();
        due("longest(1) after undo", bars.longest(1), 1);
        bars.undo();
        due("longest(1) after undo", bars.longest(1), 0);
        PersistentBars tetrahedron = hollow();
        due("longest(2) of the hollow", tetrahedron.longest(2), 0);
        due("add(16)", tetrahedron.add(16), 14);
        due("add(15)", tetrahedron.add(15), 15);
        due("longest(2)", tetrahedron.longest(2), 2);
        due("longest(3)", tetrahedron.longest(3), 0);
        due("longest(0), the last one not the longest", grown(1, 8, 2, 4, 3, 12, 6, 16, 17).longest(0), 5);
        due("longest(0), the first one not the longest", grown(1, 2, 3, 4, 8, 5).longest(0), 2);
        for (int wrong : NO_DIMENSIONS) {
            due("longest(" + wrong + ")", bars.longest(wrong), -1);
        }
    }

    private static void euler() {
        PersistentBars bars = square();
        int[] sums = {0, 1, 2, 3, 4, 3, 2, 1, 0, -1, 0, 1};
        for (int t = 0; t < sums.length; t++) {
            due("euler(" + t + ")", bars.euler(t), sums[t]);
        }
        for (int wrong : new int[] {LOW, -1, 12, HIGH}) {
            due("euler(" + wrong + ")", bars.euler(wrong), -1000);
        }
        PersistentBars tetrahedron = hollow();
        tetrahedron.add(15);
        due("euler(14)", tetrahedron.euler(14), 2);
        due("euler(15)", tetrahedron.euler(15), 1);
        due("euler(26) of the full", full().euler(26), -6);
    }

    private static void border() {
        PersistentBars bars = square();
        due("border(0)", bars.border(0), 0);
        due("border(15), points", bars.border(15), 0);
        due("border(16), an edge", bars.border(16), 3);
        due("border(48), a path", bars.border(48), 5);
        due("border(240), the square", bars.border(240), 0);
        due("border(512), a triangle", bars.border(512), 304);
        due("border(1536), two triangles", bars.border(1536), 240);
        due("border(17), mixed", bars.border(17), -2);
        due("border(528), mixed", bars.border(528), -2);
        due("border(2047), mixed", bars.border(2047), -2);
        for (int wrong : new int[] {LOW, -1, 2048, 2049, 1 << 26, HIGH}) {
            due("border(" + wrong + ")", bars.border(wrong), -1);
        }
        bars.undo();
        due("border(1024) after undo", bars.border(1024), -1);
        PersistentBars tetrahedron = hollow();
        tetrahedron.add(15);
        due("border(16384), a tetrahedron", tetrahedron.border(16384), 15360);
        due("border(15360), its faces", tetrahedron.border(15360), 0);
        due("border(2^25) of the full", full().border(1 << 25), 1 << 15 | 1 << 16);
        due("border(2^26 - 1) of the full", full().border((1 << 26) - 1), -2);
        due("border(2^26) of the full", full().border(1 << 26), -1);
    }

    private static void bounds() {
        PersistentBars bars = square();
        due("bounds(0)", bars.bounds(0), 1);
        due("bounds(1), a point", bars.bounds(1), 0);
        due("bounds(9), two points joined", bars.bounds(9), 1);
        due("bounds(11), three points", bars.bounds(11), 0);
        due("bounds(48), a path", bars.bounds(48), 2);
        due("bounds(240), the square", bars.bounds(240), 1);
        due("bounds(304), a triangle's sides", bars.bounds(304), 1);
        due("bounds(512), a triangle", bars.bounds(512), 2);
        due("bounds(17), mixed", bars.bounds(17), -2);
        for (int wrong : new int[] {LOW, -1, 2048, 2049, 1 << 26, HIGH}) {
            due("bounds(" + wrong + ")", bars.bounds(wrong), -1);
        }
        bars.undo();
        due("bounds(240) after undo", bars.bounds(240), 0);
        due("bounds(304) after undo", bars.bounds(304), 1);
        due("bounds(448) after undo", bars.bounds(448), 0);
        due("add(32)", bars.add(32), 10);
        due("bounds(1025), two points apart", bars.bounds(1025), 0);
        PersistentBars tetrahedron = hollow();
        due("bounds(15360) of the hollow", tetrahedron.bounds(15360), 0);
        tetrahedron.add(15);
        due("bounds(15360)", tetrahedron.bounds(15360), 1);
        due("bounds(16384), a tetrahedron", tetrahedron.bounds(16384), 2);
        due("bounds(2^26 - 1) of the full", full().bounds((1 << 26) - 1), -2);
        due("bounds(2^26) of the full", full().bounds(1 << 26), -1);
    }
}
