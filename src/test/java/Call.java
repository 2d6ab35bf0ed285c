import java.util.Arrays;
import java.util.stream.Collectors;

/** A call of the public face with its arguments, so that tests can hold calls in lists. */
record Call(String method, int... args) {
    int on(PersistentBars bars) {
        switch (method) {
            case "add": return bars.add(args[0]);
            case "fill": return bars.fill(args[0]);
            case "undo": return bars.undo();
            case "size": return bars.size();
            case "piece": return bars.piece(args[0]);
            case "pieces": return bars.pieces(args[0], args[1]);
            case "holes": return bars.holes(args[0], args[1]);
            case "lasting": return bars.lasting(args[0], args[1], args[2]);
            case "opens": return bars.opens(args[0]);
            case "partner": return bars.partner(args[0]);
            case "forever": return bars.forever(args[0]);
            case "longest": return bars.longest(args[0]);
            case "euler": return bars.euler(args[0]);
            case "border": return bars.border(args[0]);
            case "bounds": return bars.bounds(args[0]);
            default: throw new IllegalArgumentException(method);
        }
    }

    @Override
    public String toString() {
        return method + Arrays.stream(args).mapToObj(String::valueOf)
                .collect(Collectors.joining(", ", "(", ")"));
    }
}
