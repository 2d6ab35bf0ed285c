import java.util.Random;

/** Long runs of mixed calls, each answer compared with that of PlainModel. */
public final class ModelTest {
    private static final int RUNS = 300;
    private static final int CALLS = 512;
    private static final int[] FAR = {
        Integer.MIN_VALUE, -1000, -1, 1000, Integer.MAX_VALUE, 1 << 26, (1 << 26) - 1, 1 << 30
    };

    private final Checks checks;
    private final Random random;
    private PersistentBars bars;
    private PlainModel model;
    private String at = "";

    private ModelTest(Checks checks, long seed) {
        this.checks = checks;
        this.random = new Random(seed);
    }

    public static void main(String[] args) {
        Checks checks = new Checks();
        // A fixed seed: the same runs every time.
        ModelTest test = new ModelTest(checks, 20261115L);
        for (int run = 1; run <= RUNS; run++) {
            test.mixedRun(run);
            test.grownRun(run);
        }
        checks.end();
    }

    /** Changes and questions in turn, up to the last call that the document speaks of. */
    private void mixedRun(int run) {
        bars = new PersistentBars();
        model = new PlainModel();
        // Some runs grow to the limit, others stay small and are undone often.
        int undoShare = random.nextInt(4);
        int fillShare = random.nextInt(3);
        for (int call = 1; call <= CALLS; call++) {
            at = "mixed run " + run + ", call " + call + ": ";
            int choice = random.nextInt(24);
            if (choice < 8) {
                add(somePiece());
            } else if (choice < 8 + undoShare) {
                undo();
            } else if (choice < 11 + fillShare) {
                fill(somePiece());
            } else {
                ask();
            }
        }
    }

    /** A growth, then questions alone, over the whole range of their arguments. */
    private void grownRun(int run) {
        bars = new PersistentBars();
        model = new PlainModel();
        at = "grown run " + run + ": ";
        int steps = 20 + random.nextInt(110);
        for (int step = 0; step < steps; step++) {
            if (random.nextInt(25) == 0) {
                undo();
            } else {
                add(1 + random.nextInt(63));
            }
        }
        for (int i = -1; i <= model.size() + 1; i++) {
            askOfNumber(i);
        }
        // An object is good for 512 calls, so each is asked for one dimension only, in wider steps.
        int k = run % 4;
        for (int i = 0; i <= model.size(); i += 2) {
            for (int j = i; j <= model.size(); j += 3) {
                lasting(i, j, k);
            }
        }
        for (int chains = 0; chains < 30; chains++) {
            int chain = someChain();
            border(chain);
            bounds(chain);
        }
    }

    private void ask() {
        int t = someNumber();
        int k = random.nextInt(12) == 0 ? far() : random.nextInt(6) - 1;
        switch (random.nextInt(12)) {
            case 0: checks.due(at + "size()", bars.size(), model.size()); break;
            case 1: checks.due(at + "piece(" + t + ")", bars.piece(t), model.piece(t)); break;
            case 2: checks.due(at + "pieces(" + t + ", " + k + ")", bars.pieces(t, k), model.pieces(t, k)); break;
            case 3: checks.due(at + "holes(" + t + ", " + k + ")", bars.holes(t, k), model.holes(t, k)); break;
            case 4: lasting(t, someNumber(), k); break;
            case 5: checks.due(at + "opens(" + t + ")", bars.opens(t), model.opens(t)); break;
            case 6: checks.due(at + "partner(" + t + ")", bars.partner(t), model.partner(t)); break;
            case 7: checks.due(at + "forever(" + k + ")", bars.forever(k), model.forever(k)); break;
            case 8: checks.due(at + "longest(" + k + ")", bars.longest(k), model.longest(k)); break;
            case 9: checks.due(at + "euler(" + t + ")", bars.euler(t), model.euler(t)); break;
            case 10: border(someChain()); break;
            default: bounds(someChain()); break;
        }
    }

    private void askOfNumber(int i) {
        checks.due(at + "piece(" + i + ")", bars.piece(i), model.piece(i));
        checks.due(at + "opens(" + i + ")", bars.opens(i), model.opens(i));
        checks.due(at + "partner(" + i + ")", bars.partner(i), model.partner(i));
        checks.due(at + "euler(" + i + ")", bars.euler(i), model.euler(i));
        int k = i & 3;
        checks.due(at + "holes(" + i + ", " + k + ")", bars.holes(i, k), model.holes(i, k));
        checks.due(at + "pieces(" + i + ", " + k + ")", bars.pieces(i, k), model.pieces(i, k));
        checks.due(at + "forever(" + k + ")", bars.forever(k), model.forever(k));
        checks.due(at + "longest(" + k + ")", bars.longest(k), model.longest(k));
    }

    private void border(int chain) {
        checks.due(at + "border(" + chain + ")", bars.border(chain), model.border(chain));
    }

    private void bounds(int chain) {
        checks.due(at + "bounds(" + chain + ")", bars.bounds(chain), model.bounds(chain));
    }

    private void lasting(int i, int j, int k) {
        checks.due(at + "lasting(" + i + ", " + j + ", " + k + ")",
                bars.lasting(i, j, k), model.lasting(i, j, k));
    }

    private void add(int piece) {
        checks.due(at + "add(" + piece + ")", bars.add(piece), model.add(piece));
    }

    private void fill(int piece) {
        checks.due(at + "fill(" + piece + ")", bars.fill(piece), model.fill(piece));
    }

    private void undo() {
        checks.due(at + "undo()", bars.undo(), model.undo());
    }

    private int far() {
        return FAR[random.nextInt(FAR.length)];
    }

    private int somePiece() {
        return random.nextInt(20) == 0 ? far() : random.nextInt(66);
    }

    private int someNumber() {
        return random.nextInt(20) == 0 ? far() : random.nextInt(model.size() + 3) - 1;
    }

    /** Any number, chains of one dimension, cycles that are borders, and sums of these with others. */
    private int someChain() {
        int kind = random.nextInt(8);
        if (kind == 0) {
            return random.nextInt(2) == 0 ? far() : random.nextInt(2 << model.size());
        }
        int k = random.nextInt(4);
        int chain = 0;
        for (int i = 0; i < model.size(); i++) {
            if (Integer.bitCount(model.piece(i)) == k + 1 && random.nextBoolean()) {
                chain |= 1 << i;
            }
        }
        if (kind < 3) {
            return chain;
        }
        int border = model.border(chain);
        return kind < 5 ? border : cycleThrough(border, k - 1);
    }

    /** Adds the border of some triangle or tetrahedron, in the growth or not, where its sides are there. */
    private int cycleThrough(int chain, int k) {
        for (int tries = 0; tries < 40; tries++) {
            int piece = 1 + random.nextInt(63);
            int sides = 0;
            int found = 0;
            for (int i = 0; i < model.size(); i++) {
                int part = model.piece(i);
                if ((part | piece) == piece && Integer.bitCount(part) == Integer.bitCount(piece) - 1) {
                    sides |= 1 << i;
                    found++;
                }
            }
            if (Integer.bitCount(piece) == k + 2 && found == k + 2) {
                return chain ^ sides;
            }
        }
        return chain;
    }
}
