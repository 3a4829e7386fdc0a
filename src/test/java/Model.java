import java.util.ArrayDeque;
import java.util.ArrayList;
import java.util.Deque;
import java.util.List;
import java.util.Map;
import java.util.TreeMap;
import java.util.TreeSet;

/** The document's promises once more, written over maps and queues, to compare the class with. */
final class Model {
    private final int n;
    private final int s;
    private final int k;
    private int active = 0;
    private Map<Integer, Integer> draft = new TreeMap<>();
    private final List<Map<Integer, Integer>> slots = new ArrayList<>();
    private Map<Integer, Integer> latch = new TreeMap<>();
    private final Deque<Map<Integer, Integer>> waves = new ArrayDeque<>();

    Model(int logPorts, int slotCount) {
        int m = Math.max(1, Math.min(5, logPorts));
        n = (int) Math.round(Math.pow(2, m));
        s = m + m - 1;
        k = Math.max(1, Math.min(4, slotCount));
        for (int slot = 0; slot < k; slot++) {
            slots.add(completed());
        }
        for (int wave = 0; wave < s; wave++) {
            waves.add(new TreeMap<>());
        }
    }

    private Map<Integer, Integer> completed() {
        Map<Integer, Integer> all = new TreeMap<>(draft);
        TreeSet<Integer> left = new TreeSet<>();
        for (int o = 0; o < n; o++) {
            left.add(o);
        }
        left.removeAll(draft.values());
        for (int i = 0; i < n; i++) {
            if (!draft.containsKey(i)) {
                all.put(i, left.pollFirst());
            }
        }
        return all;
    }

    private boolean outside(int value, int size) {
        return value < 0 || value > size - 1;
    }

    int request(int input, int output) {
        if (outside(input, n) || outside(output, n)) return -2;
        if (draft.containsKey(input)) return -3;
        if (draft.containsValue(output)) return -4;
        draft.put(input, output);
        return 0;
    }

    int withdraw(int input) {
        if (outside(input, n)) return -2;
        Integer output = draft.remove(input);
        return output == null ? -1 : output;
    }

    int clear() {
        int size = draft.size();
        draft = new TreeMap<>();
        return size;
    }

    int fill(int mul, int add) {
        int before = draft.size();
        for (int i = 0; i < n; i++) {
            int output = (int) Math.floorMod((long) i * mul + add, (long) n);
            if (!draft.containsValue(output)) draft.putIfAbsent(i, output);
        }
        return draft.size() - before;
    }

    int set(int slot) {
        if (outside(slot, k)) return -2;
        slots.set(slot, completed());
        return n - draft.size();
    }

    int load(int slot) {
        if (outside(slot, k)) return -2;
        draft = new TreeMap<>(slots.get(slot));
        return 0;
    }

    int select(int slot) {
        if (outside(slot, k)) return -2;
        active = slot;
        return 0;
    }

    int route(int slot, int input) {
        if (outside(slot, k) || outside(input, n)) return -2;
        return slots.get(slot).get(input);
    }

    int source(int slot, int output) {
        if (outside(slot, k) || outside(output, n)) return -2;
        for (Map.Entry<Integer, Integer> pair : slots.get(slot).entrySet()) {
            if (pair.getValue() == output) return pair.getKey();
        }
        throw new IllegalStateException("a setting has every output");
    }

    int latch(int input, int payload) {
        if (outside(input, n) || payload < 0) return -2;
        return latch.putIfAbsent(input, payload) == null ? 0 : -3;
    }

    int tick() {
        waves.removeFirst();
        Map<Integer, Integer> wave = new TreeMap<>();
        latch.forEach((input, payload) -> wave.put(slots.get(active).get(input), payload));
        waves.addLast(wave);
        latch = new TreeMap<>();
        return waves.getFirst().size();
    }

    int output(int output, int wave) {
        if (outside(output, n) || outside(wave, s)) return -2;
        return new ArrayList<>(waves).get(wave).getOrDefault(output, -1);
    }

    int drafted(int input) {
        return outside(input, n) ? -2 : draft.getOrDefault(input, -1);
    }

    int latched(int input) {
        return outside(input, n) ? -2 : latch.getOrDefault(input, -1);
    }

    int info(int what) {
        int flying = -waves.getFirst().size();
        for (Map<Integer, Integer> wave : waves) {
            flying += wave.size();
        }
        int[] figures = {n, s, k, active, draft.size(), latch.size(), flying};
        return outside(what, figures.length) ? -2 : figures[what];
    }
}
