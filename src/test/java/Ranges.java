import java.util.ArrayList;
import java.util.List;

/** Every number of every call that the document bounds: the least and the greatest that it takes. */
final class Ranges {
    /** One number of a call, the others being those of a call that is taken. */
    record Range(String call, int place, int low, int high, int[] taken) {
        int[] with(int number) {
            int[] arguments = taken.clone();
            arguments[place] = number;
            return arguments;
        }

        /** One below the least, one above the greatest, the least and the greatest int. */
        int[] outside() {
            return new int[] {low - 1, high + 1, Theatre.LEAST, Theatre.GREATEST};
        }

        int[] inside() {
            return new int[] {low, high};
        }
    }

    private final List<Range> all = new ArrayList<>();

    private Ranges() {
    }

    /** Of a theatre with so many holes (at least one), each with its sheets 0 to 3. */
    static List<Range> of(int holes) {
        Ranges r = new Ranges();
        r.texts();
        r.told();
        r.steps(holes - 1);
        r.seen(holes - 1);
        r.sheets();
        return r.all;
    }

    /** Bounds are told as low, high for each number of the call in turn. */
    private void bounds(String call, int[] taken, int... bounds) {
        for (int place = 0; place < taken.length; place++) {
            int low = bounds[2 * place];
            int high = bounds[2 * place + 1];
            if (low <= high) {
                all.add(new Range(call, place, low, high, taken));
            }
        }
    }

    private static int[] taken(int... arguments) {
        return arguments;
    }

    private void texts() {
        bounds("type", taken(0, 'a'), 0, 1, 0, 255);
        bounds("wipe", taken(0), 0, 1);
        bounds("undo", taken(0), 0, 1);
        bounds("fault", taken(0), 0, 1);
        bounds("line", taken(0), 0, 23);
        bounds("printed", taken(0, 0), 0, 7, 0, 1);
    }

    private void told() {
        bounds("move", taken(0, 0), 0, 39, 0, 9);
        bounds("cough", taken(0, 0), 0, 39, 0, 8);
        bounds("dark", taken(0), 0, 39);
        bounds("back", taken(0), 0, 2);
        bounds("read", taken(0), 0, 3);
    }

    private void steps(int lastHole) {
        bounds("hole", taken(0, 0), 0, lastHole, 0, 3);
        bounds("step", taken(0, 0), 0, 39, 0, 3);
        bounds("whispers", taken(0, 0), 0, 39, 0, lastHole);
        bounds("drift", taken(0), 0, 1);
        bounds("often", taken(0, 0), 0, 7, 0, 1);
        bounds("may", taken(0, 0), 0, 39, 0, 39);
        bounds("prompt", taken(1, 39, 0, 0), 1, 38, 2, 39, 0, 7, 0, 2);
        bounds("prompt", taken(38, 39, 7, 2), 1, 38, 39, 39, 0, 7, 0, 2);
        bounds("prompt", taken(1, 2, 7, 1), 1, 1, 2, 39, 0, 7, 0, 2);
    }

    private void seen(int lastHole) {
        bounds("seen", taken(0, 0), 0, 39, 0, 7);
        bounds("coughed", taken(0), 0, lastHole);
        bounds("ask", taken(0), 0, lastHole);
        bounds("slips", taken(0, 0, 0, 1, 0), 0, 16, 0, lastHole, 0, 7, 1, 9, 0, 1);
        bounds("evening", taken(0, 0, 0), 1, 0, 0, 39, 0, 1);
    }

    /** Where another refusal than BAD is due for a number (1, 0), it is not bounded here. */
    private void sheets() {
        bounds("sheet", taken(0, 0, 0), 0, 3, 0, 2, 1, 0);
        bounds("lose", taken(0), 0, 3);
        bounds("lay", taken(0, 0, 0, 0), 0, 3, 0, 2, 1, 0, 1, 0);
        bounds("get", taken(0, 0, 0), 0, 3, 0, 2, 1, 0);
        bounds("copy", taken(0, 0, 0, 0, 0), 0, 3, 1, 0, 0, 3, 1, 0, 1, 0);
        bounds("write", taken(0, 0), 0, 1, 0, 3);
        bounds("count", taken(0), 0, 8);
    }
}
