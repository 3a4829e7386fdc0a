public final class BenesFabric {
    public static final int OK = 0;
    public static final int NONE = -1;
    public static final int BAD = -2;
    public static final int INPUT_BUSY = -3;
    public static final int OUTPUT_BUSY = -4;

    public static final int PORTS = 0;
    public static final int STAGES = 1;
    public static final int SLOTS = 2;
    public static final int ACTIVE = 3;
    public static final int DRAFT_COUNT = 4;
    public static final int LATCH_COUNT = 5;
    public static final int FLIGHT_COUNT = 6;

    private static final int MOST_LOG_PORTS = 5;
    private static final int MOST_SLOTS = 4;
    private static final int MOST_PORTS = 32;
    private static final int MOST_ROUTES = 128;
    private static final int MOST_WAVE_CELLS = 288;

    private final int ports;
    private final int stages;
    private final int slotCount;
    private int activeSlot;

    // Ports and payloads are never negative, so NONE marks an empty place in
    // the draft, the latch and the waves.

    // The draft and the settings are held from both sides, so that neither a
    // busy output nor the source of an output has to be searched for.
    private final int[] draftOutputs = new int[MOST_PORTS];
    private final int[] draftInputs = new int[MOST_PORTS];
    private final int[] slotOutputs = new int[MOST_ROUTES];
    private final int[] slotInputs = new int[MOST_ROUTES];

    private final int[] latchCells = new int[MOST_PORTS];
    private final int[] waveCells = new int[MOST_WAVE_CELLS];

    public BenesFabric(int logPorts, int slots) {
        int log = clampFromOne(logPorts, MOST_LOG_PORTS);
        ports = 1 << log;
        stages = 2 * log - 1;
        slotCount = clampFromOne(slots, MOST_SLOTS);
        activeSlot = 0;
        emptyDraft();
        emptyLatch();
        emptyWaves();
        // The empty draft completes to the mapping of each input i to output i.
        for (int slot = 0; slot < slotCount; slot++) {
            storeDraft(slot);
        }
    }

    public int request(int input, int output) {
        if (!isPort(input)) {
            return BAD;
        }
        if (!isPort(output)) {
            return BAD;
        }
        if (draftOutputs[input] != NONE) {
            return INPUT_BUSY;
        }
        if (draftInputs[output] != NONE) {
            return OUTPUT_BUSY;
        }
        addPair(input, output);
        return OK;
    }

    public int withdraw(int input) {
        if (!isPort(input)) {
            return BAD;
        }
        int output = draftOutputs[input];
        if (output == NONE) {
            return NONE;
        }
        draftOutputs[input] = NONE;
        draftInputs[output] = NONE;
        return output;
    }

    public int clear() {
        int removed = countHeld(draftOutputs, 0, ports);
        emptyDraft();
        return removed;
    }

    public int fill(int mul, int add) {
        int added = 0;
        for (int input = 0; input < ports; input++) {
            int output = (input * mul + add) & (ports - 1);
            if (draftOutputs[input] == NONE && draftInputs[output] == NONE) {
                addPair(input, output);
                added++;
            }
        }
        return added;
    }

    public int set(int slot) {
        if (!isSlot(slot)) {
            return BAD;
        }
        storeDraft(slot);
        return ports - countHeld(draftOutputs, 0, ports);
    }

    public int load(int slot) {
        if (!isSlot(slot)) {
            return BAD;
        }
        // A setting has every input and every output, so nothing of the
        // former draft is left on either side.
        for (int port = 0; port < ports; port++) {
            draftOutputs[port] = slotOutputs[slot * ports + port];
            draftInputs[port] = slotInputs[slot * ports + port];
        }
        return OK;
    }

    public int select(int slot) {
        if (!isSlot(slot)) {
            return BAD;
        }
        activeSlot = slot;
        return OK;
    }

    public int route(int slot, int input) {
        if (!isSlot(slot)) {
            return BAD;
        }
        if (!isPort(input)) {
            return BAD;
        }
        return slotOutputs[slot * ports + input];
    }

    public int source(int slot, int output) {
        if (!isSlot(slot)) {
            return BAD;
        }
        if (!isPort(output)) {
            return BAD;
        }
        return slotInputs[slot * ports + output];
    }

    public int latch(int input, int payload) {
        if (!isPort(input)) {
            return BAD;
        }
        if (payload < 0) {
            return BAD;
        }
        if (latchCells[input] != NONE) {
            return INPUT_BUSY;
        }
        latchCells[input] = payload;
        return OK;
    }

    public int tick() {
        advanceWaves();
        launchLatch();
        emptyLatch();
        return countHeld(waveCells, 0, ports);
    }

    public int output(int output, int k) {
        if (!isPort(output)) {
            return BAD;
        }
        if (k < 0 || k >= stages) {
            return BAD;
        }
        return waveCells[k * ports + output];
    }

    public int drafted(int input) {
        if (!isPort(input)) {
            return BAD;
        }
        return draftOutputs[input];
    }

    public int latched(int input) {
        if (!isPort(input)) {
            return BAD;
        }
        return latchCells[input];
    }

    public int info(int what) {
        switch (what) {
            case PORTS:
                return ports;
            case STAGES:
                return stages;
            case SLOTS:
                return slotCount;
            case ACTIVE:
                return activeSlot;
            case DRAFT_COUNT:
                return countHeld(draftOutputs, 0, ports);
            case LATCH_COUNT:
                return countHeld(latchCells, 0, ports);
            case FLIGHT_COUNT:
                return countHeld(waveCells, ports, stages * ports);
            default:
                return BAD;
        }
    }

    private static int clampFromOne(int value, int most) {
        if (value < 1) {
            return 1;
        }
        return value > most ? most : value;
    }

    private static int countHeld(int[] places, int from, int end) {
        int held = 0;
        for (int place = from; place < end; place++) {
            if (places[place] != NONE) {
                held++;
            }
        }
        return held;
    }

    private boolean isPort(int port) {
        return port >= 0 && port < ports;
    }

    private boolean isSlot(int slot) {
        return slot >= 0 && slot < slotCount;
    }

    private void addPair(int input, int output) {
        draftOutputs[input] = output;
        draftInputs[output] = input;
    }

    private void emptyDraft() {
        for (int port = 0; port < ports; port++) {
            draftOutputs[port] = NONE;
            draftInputs[port] = NONE;
        }
    }

    private void emptyLatch() {
        for (int input = 0; input < ports; input++) {
            latchCells[input] = NONE;
        }
    }

    private void emptyWaves() {
        for (int place = 0; place < stages * ports; place++) {
            waveCells[place] = NONE;
        }
    }

    private void storeDraft(int slot) {
        int free = 0;
        for (int input = 0; input < ports; input++) {
            int output = draftOutputs[input];
            if (output == NONE) {
                output = freeOutputFrom(free);
                free = output + 1;
            }
            slotOutputs[slot * ports + input] = output;
            slotInputs[slot * ports + output] = input;
        }
    }

    // As many outputs as inputs are without a pair, so storeDraft, which asks
    // once for each such input, always finds one; the bound stops at the last
    // output because no further one can be the answer.
    private int freeOutputFrom(int first) {
        int output = first;
        while (output < ports - 1 && draftInputs[output] != NONE) {
            output++;
        }
        return output;
    }

    private void advanceWaves() {
        for (int place = ports; place < stages * ports; place++) {
            waveCells[place - ports] = waveCells[place];
        }
    }

    // Taken from the outputs' side, each place of the newest wave is written
    // once: an empty latch place makes an empty place in the wave.
    private void launchLatch() {
        int newest = (stages - 1) * ports;
        for (int output = 0; output < ports; output++) {
            int input = slotInputs[activeSlot * ports + output];
            waveCells[newest + output] = latchCells[input];
        }
    }
}
