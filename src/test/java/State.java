import java.util.ArrayList;
import java.util.List;

/**
 * All that can be seen of a fabric through the calls that change nothing, part by part.
 * Each part ends with the figure that info tells of it.
 */
record State(List<Integer> sizes, List<Integer> draft, List<List<Integer>> slots, int active,
             List<Integer> latch, List<List<Integer>> waves) {

    static State of(BenesFabric x) {
        int n = x.info(BenesFabric.PORTS);
        int s = x.info(BenesFabric.STAGES);
        int k = x.info(BenesFabric.SLOTS);
        List<Integer> draft = new ArrayList<>();
        List<Integer> latch = new ArrayList<>();
        for (int i = 0; i < n; i++) {
            draft.add(x.drafted(i));
            latch.add(x.latched(i));
        }
        draft.add(x.info(BenesFabric.DRAFT_COUNT));
        latch.add(x.info(BenesFabric.LATCH_COUNT));
        List<List<Integer>> slots = new ArrayList<>();
        for (int slot = 0; slot < k; slot++) {
            slots.add(setting(x, slot, n));
        }
        List<List<Integer>> waves = new ArrayList<>();
        for (int wave = 0; wave < s; wave++) {
            waves.add(cells(x, wave, n));
        }
        waves.add(List.of(x.info(BenesFabric.FLIGHT_COUNT)));
        return new State(List.of(n, s, k), draft, slots, x.info(BenesFabric.ACTIVE), latch, waves);
    }

    private static List<Integer> setting(BenesFabric x, int slot, int n) {
        List<Integer> both = new ArrayList<>();
        for (int port = 0; port < n; port++) {
            both.add(x.route(slot, port));
            both.add(x.source(slot, port));
        }
        return both;
    }

    private static List<Integer> cells(BenesFabric x, int wave, int n) {
        List<Integer> cells = new ArrayList<>();
        for (int output = 0; output < n; output++) {
            cells.add(x.output(output, wave));
        }
        return cells;
    }

    boolean sameButDraft(State o) {
        return equals(new State(o.sizes, draft, o.slots, o.active, o.latch, o.waves));
    }

    boolean sameButSlots(State o) {
        return equals(new State(o.sizes, o.draft, slots, o.active, o.latch, o.waves));
    }

    boolean sameButActive(State o) {
        return equals(new State(o.sizes, o.draft, o.slots, active, o.latch, o.waves));
    }

    boolean sameButLatch(State o) {
        return equals(new State(o.sizes, o.draft, o.slots, o.active, latch, o.waves));
    }

    boolean sameButLatchAndWaves(State o) {
        return equals(new State(o.sizes, o.draft, o.slots, o.active, latch, waves));
    }
}
