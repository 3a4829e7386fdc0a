import java.util.ArrayList;
import java.util.Collections;
import java.util.List;
import java.util.stream.IntStream;

/** One of the sizes a fabric can have: N ports, S stages and K slots; and fabrics of that size to begin from. */
record Size(int log, int n, int s, int k) {
    // Powers of two are among the wrong values because they can come back into range when they are
    // multiplied or cut to fewer bits; 4, 9 and 32 because arrays may have room there.
    private static final int[] LARGE = {
        4, 5, 9, 10, 32, 33, 128, 256, 288, 1 << 16, 1 << 26, 1 << 27, 1 << 28, 1 << 29, 1 << 30, Check.MAX - 1, Check.MAX};
    private static final int[] SMALL = {-1, -2, -3, -4, -5, -32, -256, -(1 << 16), -(1 << 27), Check.MIN + 1, Check.MIN};

    static Size of(int log, int k) {
        return new Size(log, new int[] {2, 4, 8, 16, 32}[log - 1], new int[] {1, 3, 5, 7, 9}[log - 1], k);
    }

    static int[] below0() {
        return SMALL.clone();
    }

    static int[] from(int bound) {
        return IntStream.concat(IntStream.of(bound, bound + 1, 2 * bound), IntStream.of(LARGE).filter(v -> v >= bound)).toArray();
    }

    static int[] outside(int bound) {
        return IntStream.concat(IntStream.of(SMALL), IntStream.of(from(bound))).toArray();
    }

    BenesFabric fresh() {
        return new BenesFabric(log, k);
    }

    /**
     * A fabric in which every part holds something: the draft is the one pair (0, N-1), slot j maps i to
     * (5 * i + j + 1) mod N, the last slot is active, a cell 7 waits at input N-1, and every wave has a cell.
     */
    BenesFabric busy() {
        BenesFabric x = fresh();
        for (int slot = 0; slot < k; slot++) {
            x.clear();
            x.fill(5, slot + 1);
            x.set(slot);
        }
        for (int t = 0; t < s; t++) {
            x.select(t % k);
            for (int i = t % 2; i < n; i += 2) {
                x.latch(i, 100 * t + i);
            }
            x.tick();
        }
        x.select(k - 1);
        x.latch(n - 1, 7);
        x.clear();
        x.request(0, n - 1);
        return x;
    }

    /** As busy, with all N inputs in the draft, and a cell i in the latch at each input i but the last. */
    BenesFabric full() {
        BenesFabric x = busy();
        x.clear();
        x.fill(1, -1);
        for (int i = 0; i < n - 1; i++) {
            x.latch(i, i);
        }
        return x;
    }

    /** The output of the input's pair in the draft of a full fabric. */
    int fullOutput(int input) {
        return (input + n - 1) % n;
    }

    /** The output to which a slot of a busy or a full fabric maps the input. */
    int busyRoute(int slot, int input) {
        return (5 * input + slot + 1) % n;
    }

    /** What busy makes, worked out without a fabric: a snapshot of one would hide what looking at it changes. */
    State busyState() {
        List<Integer> draft = nothing();
        draft.set(0, n - 1);
        draft.add(1);
        List<Integer> latch = nothing();
        latch.set(n - 1, 7);
        latch.add(1);
        return new State(List.of(n, s, k), draft, busySlots(), k - 1, latch, busyWaves());
    }

    /** What full makes, worked out in the same way. */
    State fullState() {
        List<Integer> draft = nothing();
        List<Integer> latch = nothing();
        for (int i = 0; i < n; i++) {
            draft.set(i, fullOutput(i));
            latch.set(i, i < n - 1 ? i : 7);
        }
        draft.add(n);
        latch.add(n);
        return new State(List.of(n, s, k), draft, busySlots(), k - 1, latch, busyWaves());
    }

    private List<Integer> nothing() {
        return new ArrayList<>(Collections.nCopies(n, BenesFabric.NONE));
    }

    private List<List<Integer>> busySlots() {
        List<List<Integer>> slots = new ArrayList<>();
        for (int slot = 0; slot < k; slot++) {
            List<Integer> both = new ArrayList<>(Collections.nCopies(2 * n, BenesFabric.NONE));
            for (int i = 0; i < n; i++) {
                both.set(2 * i, busyRoute(slot, i));
                both.set(2 * busyRoute(slot, i) + 1, i);
            }
            slots.add(both);
        }
        return slots;
    }

    private List<List<Integer>> busyWaves() {
        List<List<Integer>> waves = new ArrayList<>();
        for (int t = 0; t < s; t++) {
            List<Integer> cells = nothing();
            for (int i = t % 2; i < n; i += 2) {
                cells.set(busyRoute(t % k, i), 100 * t + i);
            }
            waves.add(cells);
        }
        waves.add(List.of((s - 1) * n / 2));
        return waves;
    }
}
