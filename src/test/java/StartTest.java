/** Promises 1 and 16: the constructor, and the figures that info answers. */
public final class StartTest {
    private static final Check check = new Check();

    public static void main(String[] args) {
        clampsBothArguments();
        startsEmpty();
        infoAnswersEachKind();
        infoRefusesOtherKinds();
        objectsAreSeparate();
        check.end();
    }

    private static void clampsBothArguments() {
        check.part("promise 1, clamp");
        int[] logs = {Check.MIN, -1, 0, 1, 2, 3, 4, 5, 6, 7, 31, 32, 33, Check.MAX};
        int[] slots = {Check.MIN, -1, 0, 1, 2, 3, 4, 5, 6, 100, Check.MAX};
        for (int log : logs) {
            for (int slot : slots) {
                BenesFabric x = new BenesFabric(log, slot);
                int m = Math.max(1, Math.min(5, log));
                String name = "(" + log + ", " + slot + ").info";
                check.due(name + "(PORTS)", x.info(BenesFabric.PORTS), new int[] {2, 4, 8, 16, 32}[m - 1]);
                check.due(name + "(STAGES)", x.info(BenesFabric.STAGES), new int[] {1, 3, 5, 7, 9}[m - 1]);
                check.due(name + "(SLOTS)", x.info(BenesFabric.SLOTS), Math.max(1, Math.min(4, slot)));
            }
        }
    }

    private static void startsEmpty() {
        check.part("promise 1, start");
        for (int log = 1; log <= 5; log++) {
            for (int slots = 1; slots <= 4; slots++) {
                startsEmpty(new BenesFabric(log, slots), 1 << log, 2 * log - 1, slots);
            }
        }
    }

    private static void startsEmpty(BenesFabric x, int n, int s, int k) {
        for (int i = 0; i < n; i++) {
            check.due("drafted(" + i + ")", x.drafted(i), BenesFabric.NONE);
            check.due("latched(" + i + ")", x.latched(i), BenesFabric.NONE);
            for (int slot = 0; slot < k; slot++) {
                check.due("route(" + slot + ", " + i + ")", x.route(slot, i), i);
                check.due("source(" + slot + ", " + i + ")", x.source(slot, i), i);
            }
            for (int wave = 0; wave < s; wave++) {
                check.due("output(" + i + ", " + wave + ")", x.output(i, wave), BenesFabric.NONE);
            }
        }
        check.due("route(K, 0)", x.route(k, 0), BenesFabric.BAD);
        check.due("drafted(N)", x.drafted(n), BenesFabric.BAD);
        check.due("output(0, S)", x.output(0, s), BenesFabric.BAD);
        check.due("info(ACTIVE)", x.info(BenesFabric.ACTIVE), 0);
        check.due("info(DRAFT_COUNT)", x.info(BenesFabric.DRAFT_COUNT), 0);
        check.due("info(LATCH_COUNT)", x.info(BenesFabric.LATCH_COUNT), 0);
        check.due("info(FLIGHT_COUNT)", x.info(BenesFabric.FLIGHT_COUNT), 0);
    }

    private static void infoAnswersEachKind() {
        check.part("promise 16, kinds");
        BenesFabric x = new BenesFabric(2, 3);
        x.select(2);
        x.request(0, 3);
        x.request(1, 1);
        x.latch(0, 5);
        x.latch(1, 0);
        x.latch(3, 5);
        State before = State.of(x);
        figures(x, 2, 2, 3, 0);
        check.same("info", before, x);
        x.tick();
        figures(x, 2, 2, 0, 3);
        x.latch(2, 9);
        x.tick();
        figures(x, 2, 2, 0, 4);
        // The first wave is in the output registers now and is not counted.
        x.latch(2, 9);
        x.tick();
        figures(x, 2, 2, 0, 2);
        x.latch(2, 9);
        figures(x, 2, 2, 1, 2);
        x.withdraw(0);
        figures(x, 2, 1, 1, 2);
        x.clear();
        x.fill(1, 0);
        figures(x, 2, 4, 1, 2);
        BenesFabric one = new BenesFabric(1, 1);
        one.latch(0, 3);
        one.latch(1, 4);
        check.due("info(LATCH_COUNT)", one.info(BenesFabric.LATCH_COUNT), 2);
        one.tick();
        check.due("info(FLIGHT_COUNT) with S = 1", one.info(BenesFabric.FLIGHT_COUNT), 0);
    }

    private static void figures(BenesFabric x, int active, int draft, int latch, int flight) {
        check.due("info(PORTS)", x.info(0), 4);
        check.due("info(STAGES)", x.info(1), 3);
        check.due("info(SLOTS)", x.info(2), 3);
        check.due("info(ACTIVE)", x.info(3), active);
        check.due("info(DRAFT_COUNT)", x.info(4), draft);
        check.due("info(LATCH_COUNT)", x.info(5), latch);
        check.due("info(FLIGHT_COUNT)", x.info(6), flight);
    }

    private static void infoRefusesOtherKinds() {
        check.part("promise 16, wrong kinds");
        BenesFabric x = new BenesFabric(3, 2);
        for (int what : new int[] {Check.MIN, -2, -1, 7, 8, 256, 65536, Check.MAX}) {
            check.due("info(" + what + ")", x.info(what), BenesFabric.BAD);
        }
    }

    private static void objectsAreSeparate() {
        check.part("promise 1, two objects");
        BenesFabric x = new BenesFabric(2, 2);
        State before = State.of(x);
        BenesFabric y = new BenesFabric(2, 2);
        y.fill(-1, -1);
        y.set(0);
        y.select(1);
        y.latch(0, 1);
        y.tick();
        y.latch(1, 2);
        check.same("work on another object", before, x);
    }
}
