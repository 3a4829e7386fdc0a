import java.util.ArrayList;
import java.util.List;

/** All that can be seen of a fabric, part by part, through the calls that change nothing. */
record State(List<Integer> draft, List<List<Integer>> slots, int active,
             List<Integer> latch, List<List<Integer>> waves, List<Integer> counts) {

    static State of(BenesFabric x) {
        int n = x.info(BenesFabric.PORTS);
        int s = x.info(BenesFabric.STAGES);
        int k = x.info(BenesFabric.SLOTS);
        List<Integer> draft = new ArrayList<>();
        List<Integer> latch = new ArrayList<>();
        for (int i = 0; i < n; i++) {
            draft.add(x.drafted(i));
            latch.add(x.latched(i));
        }
        List<List<Integer>> slots = new ArrayList<>();
        for (int slot = 0; slot < k; slot++) {
            List<Integer> both = new ArrayList<>();
            for (int i = 0; i < n; i++) {
                both.add(x.route(slot, i));
                both.add(x.source(slot, i));
            }
            slots.add(both);
        }
        List<List<Integer>> waves = new ArrayList<>();
        for (int wave = 0; wave < s; wave++) {
            List<Integer> cells = new ArrayList<>();
            for (int o = 0; o < n; o++) {
                cells.add(x.output(o, wave));
            }
            waves.add(cells);
        }
        List<Integer> counts = new ArrayList<>();
        for (int what = -1; what <= 7; what++) {
            if (what != BenesFabric.ACTIVE) {
                counts.add(x.info(what));
            }
        }
        return new State(draft, slots, x.info(BenesFabric.ACTIVE), latch, waves, counts);
    }

    /** True if no part but the draft and its count differs. */
    boolean sameButDraft(State o) {
        return slots.equals(o.slots) && active == o.active && latch.equals(o.latch) && waves.equals(o.waves);
    }

    boolean sameButSlots(State o) {
        return draft.equals(o.draft) && active == o.active && latch.equals(o.latch)
            && waves.equals(o.waves) && counts.equals(o.counts);
    }

    boolean sameButActive(State o) {
        return draft.equals(o.draft) && slots.equals(o.slots) && latch.equals(o.latch)
            && waves.equals(o.waves) && counts.equals(o.counts);
    }

    boolean sameButLatch(State o) {
        return draft.equals(o.draft) && slots.equals(o.slots) && active == o.active && waves.equals(o.waves);
    }

    boolean sameButLatchAndWaves(State o) {
        return draft.equals(o.draft) && slots.equals(o.slots) && active == o.active;
    }
}
