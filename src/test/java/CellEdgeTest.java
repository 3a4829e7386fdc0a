/** The edges that promises 11, 12, 13 and 15 name, each in a test of its own: latch, tick, output, latched. */
public final class CellEdgeTest {
    private static final Check check = new Check();
    private static final int OK = BenesFabric.OK;
    private static final int NONE = BenesFabric.NONE;
    private static final int BAD = BenesFabric.BAD;
    private static final int INPUT_BUSY = BenesFabric.INPUT_BUSY;
    private static final int MAX = Check.MAX;

    public static void main(String[] args) {
        Edges edges = new Edges(check);
        edges.edge("promise 11: BAD if input is below 0", CellEdgeTest::latchInputTooSmall);
        edges.edge("promise 11: BAD if input is above N-1", CellEdgeTest::latchInputTooLarge);
        edges.edge("promise 11: BAD if payload is below 0", CellEdgeTest::latchPayloadBelow0);
        edges.edge("promise 11: INPUT_BUSY if the latch has a cell at this input", CellEdgeTest::latchBusy);
        edges.edge("promise 11: every input can have a cell", CellEdgeTest::latchFull);
        edges.edge("promise 11: every payload up to the greatest int is accepted", CellEdgeTest::latchGreatPayloads);
        edges.edge("promise 11: a payload of 0 is a cell like any other", CellEdgeTest::latchPayload0);
        edges.edge("promise 11: a payload below 0 is BAD also at a busy input", CellEdgeTest::latchBadBeforeBusy);
        edges.edge("promise 11: the draft plays no part", CellEdgeTest::latchIgnoresTheDraft);
        edges.edge("promise 11: with any answer but OK nothing changes; the cell there is kept", CellEdgeTest::latchRefusedChangesNothing);
        edges.edge("promise 11: with OK only the latch at this input changes", CellEdgeTest::latchKeepsTheRest);

        edges.edge("promise 12: never refused", CellEdgeTest::tickIsNeverRefused);
        edges.edge("promise 12: the wave k = 0 is dropped", CellEdgeTest::tickDropsTheFirstWave);
        edges.edge("promise 12: the wave k becomes the wave k - 1", CellEdgeTest::tickMovesEveryWave);
        edges.edge("promise 12: the new wave is made by the active slot's setting as it is now", CellEdgeTest::tickLaunchesByTheActiveSlot);
        edges.edge("promise 12: outputs that get no cell are empty in the new wave", CellEdgeTest::tickLeavesOutputsEmpty);
        edges.edge("promise 12: a full latch makes a full wave", CellEdgeTest::tickOfFullLatch);
        edges.edge("promise 12: with S = 1 the new wave is in the output registers at once", CellEdgeTest::tickWithOneStage);
        edges.edge("promise 12: the latch becomes empty", CellEdgeTest::tickEmptiesTheLatch);
        edges.edge("promise 12: a wave is made also if the latch is empty", CellEdgeTest::tickOfEmptyLatch);
        edges.edge("promise 12: each cell keeps its payload", CellEdgeTest::tickKeepsPayloads);
        edges.edge("promise 12: later set, select or load never change a wave", CellEdgeTest::wavesStayAsMade);
        edges.edge("promise 12: waves launched by different settings at the same time", CellEdgeTest::wavesOfSeveralSettings);
        edges.edge("promise 12: the answer is the number of cells in the wave k = 0, 0 .. N", CellEdgeTest::tickCounts);
        edges.edge("promise 12: the draft, the settings and the active slot stay", CellEdgeTest::tickKeepsTheRest);

        edges.edge("promise 13: BAD if output is below 0", CellEdgeTest::outputTooSmall);
        edges.edge("promise 13: BAD if output is above N-1", CellEdgeTest::outputTooLarge);
        edges.edge("promise 13: BAD if k is below 0", CellEdgeTest::waveTooSmall);
        edges.edge("promise 13: BAD if k is above S-1", CellEdgeTest::waveTooLarge);
        edges.edge("promise 13: NONE if the wave has no cell for this output", CellEdgeTest::outputOfEmptyPlace);
        edges.edge("promise 13: the answer is the payload, 0 and the greatest int too", CellEdgeTest::outputOfEdgePayloads);
        edges.edge("promise 13: with S = 1 the only k in range is 0", CellEdgeTest::outputWithOneStage);
        edges.edge("promise 13: cells in the latch are in no wave", CellEdgeTest::outputOfLatchedCells);
        edges.edge("promise 13: changes nothing; a cell that is read stays", CellEdgeTest::outputChangesNothing);

        edges.edge("promise 15: BAD if input is below 0", CellEdgeTest::latchedTooSmall);
        edges.edge("promise 15: BAD if input is above N-1", CellEdgeTest::latchedTooLarge);
        edges.edge("promise 15: NONE if the latch is empty", CellEdgeTest::latchedOfEmptyLatch);
        edges.edge("promise 15: NONE if the latch has no cell at this input", CellEdgeTest::latchedOfEmptyPlace);
        edges.edge("promise 15: the answer is the payload, 0 and the greatest int too", CellEdgeTest::latchedOfEdgePayloads);
        edges.edge("promise 15: changes nothing; the cell stays in the latch", CellEdgeTest::latchedChangesNothing);
        check.end();
    }

    private static void latch(BenesFabric x, int input, int payload, int want) {
        check.due("latch(" + input + ", " + payload + ")", x.latch(input, payload), want);
    }

    private static void latched(BenesFabric x, int input, int want) {
        check.due("latched(" + input + ")", x.latched(input), want);
    }

    private static void output(BenesFabric x, int output, int k, int want) {
        check.due("output(" + output + ", " + k + ")", x.output(output, k), want);
    }

    private static void tick(BenesFabric x, int want) {
        check.due("tick()", x.tick(), want);
    }

    // In a busy fabric the latch has a cell 7 at input N-1 and no other.

    private static void latchInputTooSmall(Size z) {
        latchInputsOutside(z, Size.below0());
    }

    private static void latchInputTooLarge(Size z) {
        latchInputsOutside(z, Size.from(z.n()));
    }

    private static void latchInputsOutside(Size z, int[] inputs) {
        BenesFabric x = z.busy();
        for (int input : inputs) {
            for (int payload : new int[] {0, 1, MAX, -1, Check.MIN}) {
                latch(x, input, payload, BAD);
            }
        }
        check.due("info(LATCH_COUNT)", x.info(BenesFabric.LATCH_COUNT), 1);
    }

    private static void latchPayloadBelow0(Size z) {
        BenesFabric x = z.busy();
        for (int payload : Size.below0()) {
            for (int input = 0; input < z.n() - 1; input++) {
                latch(x, input, payload, BAD);
                latched(x, input, NONE);
            }
        }
    }

    private static void latchBusy(Size z) {
        BenesFabric x = z.busy();
        for (int payload : new int[] {0, 6, 7, 8, MAX}) {
            latch(x, z.n() - 1, payload, INPUT_BUSY);
            latched(x, z.n() - 1, 7);
        }
    }

    private static void latchFull(Size z) {
        BenesFabric x = z.fresh();
        for (int i = z.n() - 1; i >= 0; i--) {
            latch(x, i, 40 + i, OK);
        }
        for (int i = 0; i < z.n(); i++) {
            latch(x, i, 1, INPUT_BUSY);
            latched(x, i, 40 + i);
        }
        check.due("info(LATCH_COUNT)", x.info(BenesFabric.LATCH_COUNT), z.n());
    }

    private static void latchGreatPayloads(Size z) {
        for (int payload : new int[] {1, 31, 32, 127, 128, 255, 256, 32767, 32768, 65535, 65536, 1 << 30, MAX - 1, MAX}) {
            BenesFabric x = z.busy();
            latch(x, 0, payload, OK);
            latched(x, 0, payload);
        }
    }

    private static void latchPayload0(Size z) {
        BenesFabric x = z.fresh();
        latch(x, 0, 0, OK);
        latched(x, 0, 0);
        latch(x, 0, 0, INPUT_BUSY);
        latch(x, 0, 5, INPUT_BUSY);
        check.due("info(LATCH_COUNT)", x.info(BenesFabric.LATCH_COUNT), 1);
        for (int t = 1; t < z.s(); t++) {
            tick(x, 0);
            check.due("info(FLIGHT_COUNT)", x.info(BenesFabric.FLIGHT_COUNT), 1);
        }
        tick(x, 1);
        output(x, 0, 0, 0);
    }

    private static void latchBadBeforeBusy(Size z) {
        BenesFabric x = z.busy();
        for (int payload : Size.below0()) {
            latch(x, z.n() - 1, payload, BAD);
            latched(x, z.n() - 1, 7);
        }
    }

    private static void latchIgnoresTheDraft(Size z) {
        BenesFabric full = z.fresh();
        full.fill(-1, -1);
        BenesFabric empty = z.fresh();
        for (int i = 0; i < z.n(); i++) {
            latch(full, i, i, OK);
            latch(empty, i, i, OK);
        }
        // Neither a pair that has gone nor one that comes makes a busy latch free.
        full.clear();
        empty.fill(1, 0);
        latch(full, 0, 0, INPUT_BUSY);
        latch(empty, 0, 0, INPUT_BUSY);
    }

    private static void latchRefusedChangesNothing(Size z) {
        BenesFabric x = z.busy();
        State before = z.busyState();
        for (int input : Size.outside(z.n())) {
            x.latch(input, 9);
            check.same("latch(" + input + ", 9)", before, x);
        }
        for (int payload : Size.below0()) {
            x.latch(0, payload);
            check.same("latch(0, " + payload + ")", before, x);
        }
        for (int payload : new int[] {-1, 0, 8, MAX}) {
            x.latch(z.n() - 1, payload);
            check.same("latch(N-1, " + payload + ")", before, x);
        }
    }

    private static void latchKeepsTheRest(Size z) {
        for (int input = 0; input < z.n() - 1; input++) {
            BenesFabric x = z.busy();
            State before = z.busyState();
            latch(x, input, 9, OK);
            check.due("latch changes only the latch", State.of(x).sameButLatch(before));
            for (int i = 0; i < z.n(); i++) {
                latched(x, i, i == input ? 9 : i == z.n() - 1 ? 7 : NONE);
            }
        }
    }

    private static void tickIsNeverRefused(Size z) {
        for (BenesFabric x : new BenesFabric[] {z.fresh(), z.busy(), z.full()}) {
            for (int t = 0; t < 3 * z.s() + 3; t++) {
                int answer = x.tick();
                check.due("0 <= tick() <= N, not " + answer, 0 <= answer && answer <= z.n());
            }
        }
    }

    private static void tickDropsTheFirstWave(Size z) {
        BenesFabric x = z.fresh();
        latch(x, 0, 61, OK);
        for (int t = 0; t < z.s(); t++) {
            x.tick();
        }
        output(x, 0, 0, 61);
        tick(x, 0);
        for (int k = 0; k < z.s(); k++) {
            output(x, 0, k, NONE);
        }
    }

    private static void tickMovesEveryWave(Size z) {
        BenesFabric x = z.full();
        for (int t = 0; t < z.s() + 1; t++) {
            State before = State.of(x);
            x.tick();
            State after = State.of(x);
            for (int k = 1; k < z.s(); k++) {
                check.due("wave " + k + " is then wave " + (k - 1), after.waves().get(k - 1).equals(before.waves().get(k)));
            }
        }
    }

    private static void tickLaunchesByTheActiveSlot(Size z) {
        for (int active = 0; active < z.k(); active++) {
            BenesFabric x = z.full();
            x.select(active);
            x.tick();
            for (int i = 0; i < z.n(); i++) {
                output(x, z.busyRoute(active, i), z.s() - 1, i == z.n() - 1 ? 7 : i);
            }
        }
        // The setting that counts is the one at the tick, not the one at the latching.
        BenesFabric x = z.fresh();
        x.latch(0, 12);
        x.request(0, z.n() - 1);
        x.set(0);
        x.tick();
        output(x, z.n() - 1, z.s() - 1, 12);
        output(x, 0, z.s() - 1, NONE);
    }

    private static void tickLeavesOutputsEmpty(Size z) {
        BenesFabric x = z.full();
        x.clear();
        x.set(z.k() - 1);
        x.tick();
        for (int i = 0; i < z.n(); i++) {
            x.latch(i, 20);
            x.tick();
            for (int o = 0; o < z.n(); o++) {
                output(x, o, z.s() - 1, o == i ? 20 : NONE);
            }
        }
    }

    private static void tickOfFullLatch(Size z) {
        BenesFabric x = z.fresh();
        for (int i = 0; i < z.n(); i++) {
            x.latch(i, 70 + i);
        }
        for (int t = 1; t < z.s(); t++) {
            tick(x, 0);
        }
        tick(x, z.n());
        for (int o = 0; o < z.n(); o++) {
            output(x, o, 0, 70 + o);
        }
    }

    private static void tickWithOneStage(Size z) {
        BenesFabric x = new BenesFabric(1, z.k());
        x.latch(1, 5);
        tick(x, 1);
        output(x, 1, 0, 5);
        output(x, 0, 0, NONE);
        x.latch(0, 6);
        tick(x, 1);
        output(x, 0, 0, 6);
        output(x, 1, 0, NONE);
        x.latch(0, 8);
        x.latch(1, 9);
        tick(x, 2);
        output(x, 0, 0, 8);
        output(x, 1, 0, 9);
        tick(x, 0);
        output(x, 0, 0, NONE);
        output(x, 1, 0, NONE);
    }

    private static void tickEmptiesTheLatch(Size z) {
        BenesFabric x = z.full();
        x.tick();
        check.due("info(LATCH_COUNT)", x.info(BenesFabric.LATCH_COUNT), 0);
        for (int i = 0; i < z.n(); i++) {
            latched(x, i, NONE);
            latch(x, i, 2, OK);
        }
    }

    private static void tickOfEmptyLatch(Size z) {
        // A cell, then only empty waves behind it: each of them pushes it one place on.
        BenesFabric x = z.fresh();
        x.latch(z.n() - 1, 33);
        x.tick();
        for (int k = z.s() - 1; k >= 0; k--) {
            for (int wave = 0; wave < z.s(); wave++) {
                output(x, z.n() - 1, wave, wave == k ? 33 : NONE);
            }
            x.tick();
        }
        check.same("a cell that has gone through", State.of(z.fresh()), x);
    }

    private static void tickKeepsPayloads(Size z) {
        int[] payloads = {0, MAX, 1, MAX - 1, 65536, 1 << 30};
        for (int payload : payloads) {
            BenesFabric x = z.fresh();
            x.latch(0, payload);
            x.latch(z.n() - 1, payload);
            for (int k = z.s() - 1; k >= 0; k--) {
                tick(x, k == 0 ? 2 : 0);
                output(x, 0, k, payload);
                output(x, z.n() - 1, k, payload);
            }
        }
    }

    private static void wavesStayAsMade(Size z) {
        BenesFabric x = z.full();
        x.tick();
        State before = State.of(x);
        for (int slot = 0; slot < z.k(); slot++) {
            x.set(slot);
            check.due("set keeps the waves", State.of(x).waves().equals(before.waves()));
            x.select(slot);
            check.due("select keeps the waves", State.of(x).waves().equals(before.waves()));
            x.load(slot);
            check.due("load keeps the waves", State.of(x).waves().equals(before.waves()));
        }
    }

    private static void wavesOfSeveralSettings(Size z) {
        BenesFabric x = z.fresh();
        for (int t = 0; t < z.s(); t++) {
            x.clear();
            x.fill(1, t);
            x.set(t % z.k());
            x.select(t % z.k());
            x.latch(0, 80 + t);
            x.tick();
        }
        for (int k = 0; k < z.s(); k++) {
            for (int o = 0; o < z.n(); o++) {
                output(x, o, k, o == k % z.n() ? 80 + k : NONE);
            }
        }
    }

    private static void tickCounts(Size z) {
        BenesFabric x = z.fresh();
        for (int t = 0; t <= z.n() + z.s(); t++) {
            int cells = t <= z.n() ? t : 0;
            for (int i = 0; i < cells; i++) {
                x.latch(i, 0);
            }
            int arriving = t - (z.s() - 1);
            tick(x, 0 <= arriving && arriving <= z.n() ? arriving : 0);
        }
    }

    private static void tickKeepsTheRest(Size z) {
        for (BenesFabric x : new BenesFabric[] {z.busy(), z.full(), z.fresh()}) {
            State before = State.of(x);
            for (int t = 0; t < z.s() + 1; t++) {
                x.tick();
                check.due("tick changes only the latch and the waves", State.of(x).sameButLatchAndWaves(before));
            }
        }
    }

    private static void outputTooSmall(Size z) {
        outputsOutside(z, Size.below0());
    }

    private static void outputTooLarge(Size z) {
        outputsOutside(z, Size.from(z.n()));
    }

    private static void outputsOutside(Size z, int[] outputs) {
        BenesFabric x = z.busy();
        for (int output : outputs) {
            for (int k = -1; k <= z.s(); k++) {
                output(x, output, k, BAD);
            }
        }
    }

    private static void waveTooSmall(Size z) {
        wavesOutside(z, Size.below0());
    }

    private static void waveTooLarge(Size z) {
        wavesOutside(z, Size.from(z.s()));
    }

    private static void wavesOutside(Size z, int[] waves) {
        BenesFabric x = z.busy();
        for (int k : waves) {
            for (int output = 0; output < z.n(); output++) {
                output(x, output, k, BAD);
            }
        }
    }

    private static void outputOfEmptyPlace(Size z) {
        BenesFabric fresh = z.fresh();
        BenesFabric x = z.fresh();
        x.latch(0, 4);
        x.tick();
        for (int k = 0; k < z.s(); k++) {
            for (int o = 0; o < z.n(); o++) {
                output(fresh, o, k, NONE);
                if (o != 0 || k != z.s() - 1) {
                    output(x, o, k, NONE);
                }
            }
        }
    }

    private static void outputOfEdgePayloads(Size z) {
        BenesFabric x = z.fresh();
        for (int t = 0; t < z.s(); t++) {
            x.latch(0, 0);
            x.latch(z.n() - 1, MAX);
            x.tick();
        }
        for (int k = 0; k < z.s(); k++) {
            output(x, 0, k, 0);
            output(x, z.n() - 1, k, MAX);
        }
    }

    private static void outputWithOneStage(Size z) {
        BenesFabric x = new BenesFabric(1, z.k());
        x.latch(0, 0);
        x.tick();
        output(x, 0, 0, 0);
        output(x, 1, 0, NONE);
        for (int k : Size.outside(1)) {
            output(x, 0, k, BAD);
            output(x, 1, k, BAD);
        }
    }

    private static void outputOfLatchedCells(Size z) {
        BenesFabric x = z.fresh();
        for (int i = 0; i < z.n(); i++) {
            x.latch(i, i);
        }
        for (int k = 0; k < z.s(); k++) {
            for (int o = 0; o < z.n(); o++) {
                output(x, o, k, NONE);
            }
        }
    }

    private static void outputChangesNothing(Size z) {
        BenesFabric x = z.busy();
        State before = z.busyState();
        for (int o = -1; o <= z.n(); o++) {
            for (int k = -1; k <= z.s(); k++) {
                check.due("output again", x.output(o, k), x.output(o, k));
            }
        }
        check.same("output", before, x);
    }

    private static void latchedTooSmall(Size z) {
        latchedOutside(z, Size.below0());
    }

    private static void latchedTooLarge(Size z) {
        latchedOutside(z, Size.from(z.n()));
    }

    private static void latchedOutside(Size z, int[] inputs) {
        for (int input : inputs) {
            latched(z.fresh(), input, BAD);
            latched(z.full(), input, BAD);
        }
    }

    private static void latchedOfEmptyLatch(Size z) {
        BenesFabric x = z.full();
        x.tick();
        for (int i = 0; i < z.n(); i++) {
            latched(z.fresh(), i, NONE);
            latched(x, i, NONE);
        }
    }

    private static void latchedOfEmptyPlace(Size z) {
        BenesFabric x = z.busy();
        for (int i = 0; i < z.n() - 1; i++) {
            latched(x, i, NONE);
        }
    }

    private static void latchedOfEdgePayloads(Size z) {
        BenesFabric x = z.fresh();
        x.latch(0, 0);
        x.latch(z.n() - 1, MAX);
        latched(x, 0, 0);
        latched(x, z.n() - 1, MAX);
    }

    private static void latchedChangesNothing(Size z) {
        BenesFabric x = z.full();
        State before = z.fullState();
        for (int i = -1; i <= z.n(); i++) {
            check.due("latched again", x.latched(i), x.latched(i));
            check.same("latched(" + i + ")", before, x);
        }
    }
}
