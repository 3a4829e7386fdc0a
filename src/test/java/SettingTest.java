/** Promises 6 to 10: set, load, select, route and source. */
public final class SettingTest {
    private static final Check check = new Check();
    private static final int OK = BenesFabric.OK;
    private static final int NONE = BenesFabric.NONE;
    private static final int BAD = BenesFabric.BAD;
    private static final int[] OUTSIDE_THREE_SLOTS = {Check.MIN, -1, 3, 4, 5, Check.MAX};
    private static final int[] OUTSIDE_EIGHT_PORTS = {Check.MIN, -1, 8, 9, 31, 32, Check.MAX};

    public static void main(String[] args) {
        setCompletesTheDraft();
        setOfFullAndEmptyDrafts();
        setReplacesOneSlotOnly();
        setKeepsWavesAndGovernsTheNextTick();
        setRefuses();
        loadReplacesTheDraft();
        loadRefuses();
        selectChangesTheActiveSlot();
        selectRefuses();
        routeAndSourceAnswer();
        routeAndSourceRefuse();
        check.end();
    }

    private static void routes(BenesFabric x, int slot, int... want) {
        for (int i = 0; i < want.length; i++) {
            check.due("route(" + slot + ", " + i + ")", x.route(slot, i), want[i]);
            check.due("source(" + slot + ", " + want[i] + ")", x.source(slot, want[i]), i);
        }
    }

    private static void setCompletesTheDraft() {
        check.part("promise 6, completion");
        BenesFabric x = DraftTest.busy();
        x.request(0, 6);
        x.request(5, 0);
        x.request(2, 7);
        State before = State.of(x);
        check.due("set(2)", x.set(2), 5);
        routes(x, 2, 6, 1, 7, 2, 3, 0, 4, 5);
        check.due("set changes only the slots", State.of(x).sameButSlots(before));
        x.clear();
        x.request(7, 0);
        check.due("set(2)", x.set(2), 7);
        routes(x, 2, 1, 2, 3, 4, 5, 6, 7, 0);
        x.clear();
        x.request(0, 7);
        check.due("set(2)", x.set(2), 7);
        routes(x, 2, 7, 0, 1, 2, 3, 4, 5, 6);
        for (int i = 1; i < 7; i++) {
            x.request(i, 7 - i);
        }
        check.due("set(2) with one input left", x.set(2), 1);
        routes(x, 2, 7, 6, 5, 4, 3, 2, 1, 0);
        check.due("drafted(7)", x.drafted(7), NONE);
        check.due("request(7, 0)", x.request(7, 0), OK);
    }

    private static void setOfFullAndEmptyDrafts() {
        check.part("promise 6, full and empty drafts");
        for (int log = 1; log <= 5; log++) {
            int n = 1 << log;
            BenesFabric x = new BenesFabric(log, 4);
            x.fill(-1, -1);
            check.due("set(3) of a full draft", x.set(3), 0);
            for (int i = 0; i < n; i++) {
                check.due("route(3, " + i + ")", x.route(3, i), n - 1 - i);
                check.due("source(3, " + i + ")", x.source(3, i), n - 1 - i);
            }
            x.clear();
            check.due("set(3) of an empty draft", x.set(3), n);
            for (int i = 0; i < n; i++) {
                check.due("route(3, " + i + ")", x.route(3, i), i);
                check.due("source(3, " + i + ")", x.source(3, i), i);
            }
            check.due("info(DRAFT_COUNT)", x.info(BenesFabric.DRAFT_COUNT), 0);
        }
    }

    private static void setReplacesOneSlotOnly() {
        check.part("promise 6, one slot");
        BenesFabric x = new BenesFabric(2, 4);
        for (int slot = 0; slot < 4; slot++) {
            x.clear();
            x.fill(1, slot);
            check.due("set(" + slot + ")", x.set(slot), 0);
        }
        routes(x, 0, 0, 1, 2, 3);
        routes(x, 1, 1, 2, 3, 0);
        routes(x, 2, 2, 3, 0, 1);
        routes(x, 3, 3, 0, 1, 2);
        x.clear();
        x.request(1, 3);
        check.due("set(2)", x.set(2), 3);
        routes(x, 0, 0, 1, 2, 3);
        routes(x, 1, 1, 2, 3, 0);
        routes(x, 2, 0, 3, 1, 2);
        routes(x, 3, 3, 0, 1, 2);
    }

    private static void setKeepsWavesAndGovernsTheNextTick() {
        check.part("promise 6, waves");
        BenesFabric x = new BenesFabric(2, 2);
        x.latch(0, 50);
        x.tick();
        x.request(0, 3);
        x.latch(0, 60);
        State before = State.of(x);
        check.due("set(0)", x.set(0), 3);
        check.due("set keeps waves and latch", State.of(x).sameButSlots(before));
        check.due("output(0, 2)", x.output(0, 2), 50);
        x.clear();
        x.request(0, 2);
        x.set(0);
        x.tick();
        check.due("output(2, 2)", x.output(2, 2), 60);
        check.due("output(3, 2)", x.output(3, 2), NONE);
        check.due("output(0, 1)", x.output(0, 1), 50);
    }

    private static void setRefuses() {
        check.part("promise 6, refusals");
        BenesFabric x = DraftTest.busy();
        x.request(0, 5);
        State before = State.of(x);
        for (int slot : OUTSIDE_THREE_SLOTS) {
            check.due("set(" + slot + ")", x.set(slot), BAD);
        }
        check.same("a refused set", before, x);
    }

    private static void loadReplacesTheDraft() {
        check.part("promise 7");
        BenesFabric x = DraftTest.busy();
        x.request(0, 0);
        x.request(1, 7);
        State before = State.of(x);
        check.due("load(1)", x.load(1), OK);
        for (int i = 0; i < 8; i++) {
            check.due("drafted(" + i + ")", x.drafted(i), (3 * i + 1) & 7);
        }
        check.due("info(DRAFT_COUNT)", x.info(BenesFabric.DRAFT_COUNT), 8);
        check.due("load changes only the draft", State.of(x).sameButDraft(before));
        check.due("request(0, 0)", x.request(0, 0), BenesFabric.INPUT_BUSY);
        check.due("withdraw(2)", x.withdraw(2), 7);
        check.due("request(2, 1)", x.request(2, 1), BenesFabric.OUTPUT_BUSY);
        check.due("request(2, 7)", x.request(2, 7), OK);
        check.due("withdraw(2)", x.withdraw(2), 7);
        check.due("withdraw(3)", x.withdraw(3), 2);
        check.due("request(2, 2)", x.request(2, 2), OK);
        // The draft is a copy: work on it leaves the slot as it was.
        check.due("route(1, 2)", x.route(1, 2), 7);
        check.due("load(0)", x.load(0), OK);
        for (int i = 0; i < 8; i++) {
            check.due("drafted(" + i + ")", x.drafted(i), i);
        }
        check.due("set(2)", x.set(2), 0);
        check.due("load changes only the draft", State.of(x).sameButDraft(before));
    }

    private static void loadRefuses() {
        check.part("promise 7, refusals");
        BenesFabric x = DraftTest.busy();
        x.request(0, 5);
        State before = State.of(x);
        for (int slot : OUTSIDE_THREE_SLOTS) {
            check.due("load(" + slot + ")", x.load(slot), BAD);
        }
        check.same("a refused load", before, x);
    }

    private static void selectChangesTheActiveSlot() {
        check.part("promise 8");
        BenesFabric x = DraftTest.busy();
        x.request(4, 2);
        State before = State.of(x);
        for (int slot : new int[] {2, 2, 0, 1, 1, 0}) {
            check.due("select(" + slot + ")", x.select(slot), OK);
            check.due("info(ACTIVE)", x.info(BenesFabric.ACTIVE), slot);
            check.due("select changes only the active slot", State.of(x).sameButActive(before));
        }
        x = new BenesFabric(2, 2);
        x.fill(1, 1);
        x.set(1);
        x.latch(0, 4);
        x.select(1);
        x.tick();
        check.due("output(1, 2) by slot 1", x.output(1, 2), 4);
        x.latch(0, 5);
        x.select(0);
        x.tick();
        check.due("output(0, 2) by slot 0", x.output(0, 2), 5);
        check.due("output(1, 1) as launched", x.output(1, 1), 4);
    }

    private static void selectRefuses() {
        check.part("promise 8, refusals");
        BenesFabric x = DraftTest.busy();
        State before = State.of(x);
        for (int slot : OUTSIDE_THREE_SLOTS) {
            check.due("select(" + slot + ")", x.select(slot), BAD);
        }
        check.same("a refused select", before, x);
        BenesFabric one = new BenesFabric(1, 1);
        check.due("select(0)", one.select(0), OK);
        check.due("select(1) with K = 1", one.select(1), BAD);
    }

    private static void routeAndSourceAnswer() {
        check.part("promises 9 and 10");
        BenesFabric x = new BenesFabric(5, 4);
        x.fill(5, 3);
        x.set(3);
        x.clear();
        x.fill(1, 0);
        State before = State.of(x);
        for (int active = 0; active < 4; active++) {
            x.select(active);
            for (int i = 0; i < 32; i++) {
                int o = (5 * i + 3) & 31;
                check.due("route(3, " + i + ")", x.route(3, i), o);
                check.due("source(3, " + o + ")", x.source(3, o), i);
                check.due("route(2, " + i + ")", x.route(2, i), i);
                check.due("source(2, " + i + ")", x.source(2, i), i);
            }
        }
        x.select(0);
        check.same("route and source", before, x);
        // A draft that is not stored is not seen.
        BenesFabric y = new BenesFabric(2, 1);
        y.request(0, 3);
        check.due("route(0, 0)", y.route(0, 0), 0);
        check.due("source(0, 3)", y.source(0, 3), 3);
        // A cycle of three, so that source can't be mistaken for route.
        y.clear();
        y.request(0, 1);
        y.request(1, 2);
        y.request(2, 0);
        y.set(0);
        routes(y, 0, 1, 2, 0, 3);
    }

    private static void routeAndSourceRefuse() {
        check.part("promises 9 and 10, refusals");
        BenesFabric x = DraftTest.busy();
        State before = State.of(x);
        for (int slot : OUTSIDE_THREE_SLOTS) {
            for (int port : new int[] {-1, 0, 7, 8}) {
                check.due("route(" + slot + ", " + port + ")", x.route(slot, port), BAD);
                check.due("source(" + slot + ", " + port + ")", x.source(slot, port), BAD);
            }
        }
        for (int port : OUTSIDE_EIGHT_PORTS) {
            for (int slot = 0; slot < 3; slot++) {
                check.due("route(" + slot + ", " + port + ")", x.route(slot, port), BAD);
                check.due("source(" + slot + ", " + port + ")", x.source(slot, port), BAD);
            }
        }
        check.same("a refused route or source", before, x);
    }
}
