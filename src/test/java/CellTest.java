/** Promises 11, 12, 13 and 15: latch, tick, output and latched. */
public final class CellTest {
    private static final Check check = new Check();
    private static final int OK = BenesFabric.OK;
    private static final int NONE = BenesFabric.NONE;
    private static final int BAD = BenesFabric.BAD;
    private static final int[] OUTSIDE_EIGHT_PORTS = {Check.MIN, -1, 8, 9, 31, 32, Check.MAX};

    public static void main(String[] args) {
        latchPutsOneCell();
        latchRefuses();
        tickMovesWaves();
        tickLaunchesBySetting();
        tickWithOneStage();
        tickOfAnEmptyLatch();
        tickKeepsTheRest();
        wavesOutliveTheirSettings();
        outputAnswers();
        outputRefuses();
        latchedAnswers();
        check.end();
    }

    private static void latchPutsOneCell() {
        check.part("promise 11");
        BenesFabric x = DraftTest.busy();
        x.request(0, 1);
        State before = State.of(x);
        check.due("latch(0, 0)", x.latch(0, 0), OK);
        check.due("latch(6, MAX)", x.latch(6, Check.MAX), OK);
        check.due("latch(5, 1)", x.latch(5, 1), OK);
        check.due("latch(4, 1)", x.latch(4, 1), OK);
        int[] want = {0, NONE, NONE, NONE, 1, 1, Check.MAX, 13};
        for (int i = 0; i < 8; i++) {
            check.due("latched(" + i + ")", x.latched(i), want[i]);
        }
        check.due("info(LATCH_COUNT)", x.info(BenesFabric.LATCH_COUNT), 5);
        check.due("latch changes only the latch", State.of(x).sameButLatch(before));
        x.tick();
        check.due("latch(0, 3) after a tick", x.latch(0, 3), OK);
        BenesFabric wide = new BenesFabric(5, 1);
        for (int i = 0; i < 32; i++) {
            check.due("latch(" + i + ", 9)", wide.latch(i, 9), OK);
        }
        check.due("info(LATCH_COUNT)", wide.info(BenesFabric.LATCH_COUNT), 32);
    }

    private static void latchRefuses() {
        check.part("promise 11, refusals");
        BenesFabric x = DraftTest.busy();
        x.latch(3, 0);
        State before = State.of(x);
        check.due("latch(7, 13)", x.latch(7, 13), BenesFabric.INPUT_BUSY);
        check.due("latch(7, 0)", x.latch(7, 0), BenesFabric.INPUT_BUSY);
        check.due("latch(3, MAX)", x.latch(3, Check.MAX), BenesFabric.INPUT_BUSY);
        for (int payload : new int[] {Check.MIN, -5, -4, -3, -2, -1}) {
            check.due("latch(7, " + payload + ")", x.latch(7, payload), BAD);
            check.due("latch(0, " + payload + ")", x.latch(0, payload), BAD);
        }
        for (int input : OUTSIDE_EIGHT_PORTS) {
            check.due("latch(" + input + ", 1)", x.latch(input, 1), BAD);
            check.due("latch(" + input + ", -1)", x.latch(input, -1), BAD);
        }
        check.same("a refused latch", before, x);
    }

    private static void tickMovesWaves() {
        check.part("promise 12, pipeline");
        for (int log = 1; log <= 5; log++) {
            int n = 1 << log;
            int s = 2 * log - 1;
            BenesFabric x = new BenesFabric(log, 1);
            x.fill(-1, -1);
            x.set(0);
            for (int t = 0; t < 3 * s; t++) {
                launchNumbered(x, n, t);
                // The wave that was made at tick u is k = u - t + S - 1 after tick t.
                check.due("tick() number " + t, x.tick(), t < s - 1 ? 0 : cells(n, t - s + 1));
                int flight = 0;
                for (int k = 0; k < s; k++) {
                    int u = t - s + 1 + k;
                    flight += k > 0 && u >= 0 ? cells(n, u) : 0;
                    numberedWave(x, n, k, u);
                }
                check.due("info(FLIGHT_COUNT)", x.info(BenesFabric.FLIGHT_COUNT), flight);
                check.due("info(LATCH_COUNT)", x.info(BenesFabric.LATCH_COUNT), 0);
            }
        }
    }

    private static int cells(int n, int t) {
        return 1 + t % n;
    }

    private static void launchNumbered(BenesFabric x, int n, int t) {
        for (int i = 0; i < cells(n, t); i++) {
            x.latch(i, 1000 * t + i);
        }
    }

    private static void numberedWave(BenesFabric x, int n, int k, int u) {
        for (int i = 0; i < n; i++) {
            int want = u >= 0 && i < cells(n, u) ? 1000 * u + i : NONE;
            check.due("output(" + (n - 1 - i) + ", " + k + ")", x.output(n - 1 - i, k), want);
        }
    }

    private static void tickLaunchesBySetting() {
        check.part("promise 12, setting");
        BenesFabric x = new BenesFabric(2, 1);
        x.request(0, 1);
        x.request(1, 2);
        x.request(2, 0);
        x.set(0);
        x.clear();
        // The draft has no part in a launch.
        x.fill(1, 0);
        x.latch(0, 100);
        x.latch(1, 100);
        x.latch(2, 0);
        check.due("tick()", x.tick(), 0);
        check.due("output(1, 2)", x.output(1, 2), 100);
        check.due("output(2, 2)", x.output(2, 2), 100);
        check.due("output(0, 2)", x.output(0, 2), 0);
        check.due("output(3, 2)", x.output(3, 2), NONE);
        check.due("tick()", x.tick(), 0);
        check.due("tick()", x.tick(), 3);
        check.due("output(0, 0)", x.output(0, 0), 0);
        check.due("tick()", x.tick(), 0);
        check.due("output(0, 0)", x.output(0, 0), NONE);
    }

    private static void tickWithOneStage() {
        check.part("promise 12, S = 1");
        BenesFabric x = new BenesFabric(1, 1);
        x.fill(1, 1);
        x.set(0);
        x.latch(0, 8);
        check.due("tick()", x.tick(), 1);
        check.due("output(0, 0)", x.output(0, 0), NONE);
        check.due("output(1, 0)", x.output(1, 0), 8);
        x.latch(1, 9);
        check.due("tick()", x.tick(), 1);
        check.due("output(0, 0)", x.output(0, 0), 9);
        check.due("output(1, 0)", x.output(1, 0), NONE);
        check.due("tick()", x.tick(), 0);
        check.due("output(0, 0)", x.output(0, 0), NONE);
    }

    private static void tickOfAnEmptyLatch() {
        check.part("promise 12, empty latch");
        BenesFabric x = new BenesFabric(5, 1);
        x.latch(31, 6);
        for (int t = 0; t < 8; t++) {
            check.due("tick()", x.tick(), 0);
            check.due("output(31, " + (8 - t) + ")", x.output(31, 8 - t), 6);
            check.due("info(FLIGHT_COUNT)", x.info(BenesFabric.FLIGHT_COUNT), 1);
        }
        check.due("tick()", x.tick(), 1);
        check.due("output(31, 0)", x.output(31, 0), 6);
        check.due("info(FLIGHT_COUNT)", x.info(BenesFabric.FLIGHT_COUNT), 0);
        check.due("tick()", x.tick(), 0);
        State start = State.of(new BenesFabric(5, 1));
        check.same("a cell that has gone through", start, x);
    }

    private static void tickKeepsTheRest() {
        check.part("promise 12, other parts");
        BenesFabric x = DraftTest.busy();
        x.request(3, 6);
        x.request(0, 2);
        State before = State.of(x);
        for (int t = 0; t < 12; t++) {
            x.tick();
            check.due("tick changes only latch and waves", State.of(x).sameButLatchAndWaves(before));
            check.due("latched(7)", x.latched(7), NONE);
        }
    }

    private static void wavesOutliveTheirSettings() {
        check.part("promise 12, waves of several settings");
        BenesFabric x = new BenesFabric(3, 2);
        for (int t = 0; t < 5; t++) {
            x.clear();
            x.fill(1, t);
            x.set(t & 1);
            x.select(t & 1);
            x.latch(0, 70 + t);
            x.tick();
        }
        x.clear();
        x.set(0);
        x.set(1);
        x.load(1);
        x.select(0);
        for (int k = 0; k < 5; k++) {
            for (int o = 0; o < 8; o++) {
                check.due("output(" + o + ", " + k + ")", x.output(o, k), o == k ? 70 + k : NONE);
            }
        }
    }

    private static void outputAnswers() {
        check.part("promise 13");
        BenesFabric x = new BenesFabric(5, 1);
        x.latch(0, 0);
        x.latch(31, Check.MAX);
        check.due("output(0, 8) of a latched cell", x.output(0, 8), NONE);
        check.due("output(0, 0) of a latched cell", x.output(0, 0), NONE);
        x.tick();
        State before = State.of(x);
        check.due("output(0, 8)", x.output(0, 8), 0);
        check.due("output(31, 8)", x.output(31, 8), Check.MAX);
        check.due("output(31, 8) again", x.output(31, 8), Check.MAX);
        check.due("output(30, 8)", x.output(30, 8), NONE);
        check.due("output(0, 7)", x.output(0, 7), NONE);
        check.same("output", before, x);
    }

    private static void outputRefuses() {
        check.part("promise 13, refusals");
        BenesFabric x = DraftTest.busy();
        State before = State.of(x);
        for (int output : OUTSIDE_EIGHT_PORTS) {
            for (int k = -1; k <= 5; k++) {
                check.due("output(" + output + ", " + k + ")", x.output(output, k), BAD);
            }
        }
        for (int k : new int[] {Check.MIN, -1, 5, 6, 8, 9, 1 << 29, Check.MAX}) {
            for (int output = 0; output < 8; output++) {
                check.due("output(" + output + ", " + k + ")", x.output(output, k), BAD);
            }
        }
        check.same("a refused output", before, x);
        BenesFabric one = new BenesFabric(1, 1);
        check.due("output(1, 0) with S = 1", one.output(1, 0), NONE);
        check.due("output(1, 1) with S = 1", one.output(1, 1), BAD);
        check.due("output(1, -1) with S = 1", one.output(1, -1), BAD);
    }

    private static void latchedAnswers() {
        check.part("promise 15");
        BenesFabric x = DraftTest.busy();
        x.latch(0, 0);
        x.latch(1, Check.MAX);
        State before = State.of(x);
        check.due("latched(0)", x.latched(0), 0);
        check.due("latched(1)", x.latched(1), Check.MAX);
        check.due("latched(1) again", x.latched(1), Check.MAX);
        check.due("latched(7)", x.latched(7), 13);
        check.due("latched(2)", x.latched(2), NONE);
        for (int input : OUTSIDE_EIGHT_PORTS) {
            check.due("latched(" + input + ")", x.latched(input), BAD);
        }
        check.same("latched", before, x);
        x.tick();
        for (int i = 0; i < 8; i++) {
            check.due("latched(" + i + ") after a tick", x.latched(i), NONE);
        }
    }
}
