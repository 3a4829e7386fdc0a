/** The edges that promises 1 and 16 name, each in a test of its own: the constructor and info. */
public final class StartEdgeTest {
    private static final Check check = new Check();
    private static final int NONE = BenesFabric.NONE;
    private static final int BAD = BenesFabric.BAD;

    public static void main(String[] args) {
        Edges edges = new Edges(check);
        edges.edge("promise 1: logPorts below 1 becomes 1", StartEdgeTest::logPortsTooSmall);
        edges.edge("promise 1: logPorts above 5 becomes 5", StartEdgeTest::logPortsTooLarge);
        edges.edge("promise 1: slots below 1 becomes 1", StartEdgeTest::slotsTooSmall);
        edges.edge("promise 1: slots above 4 becomes 4", StartEdgeTest::slotsTooLarge);
        edges.edge("promise 1: the constructor accepts any two ints", StartEdgeTest::bothOutOfRange);
        edges.edge("promise 1: a value in range is taken as it is", StartEdgeTest::valuesInRange);
        edges.edge("promise 1: N, S and K never change afterwards", StartEdgeTest::sizesNeverChange);
        edges.edge("promise 1: the draft is empty at the start", StartEdgeTest::draftStartsEmpty);
        edges.edge("promise 1: every slot maps i to i at the start", StartEdgeTest::slotsStartStraight);
        edges.edge("promise 1: the active slot is 0 at the start", StartEdgeTest::slot0StartsActive);
        edges.edge("promise 1: the latch is empty at the start", StartEdgeTest::latchStartsEmpty);
        edges.edge("promise 1: all S waves are empty at the start", StartEdgeTest::wavesStartEmpty);

        edges.edge("promise 16: PORTS is N", z -> figure(z, BenesFabric.PORTS, z.n()));
        edges.edge("promise 16: STAGES is S", z -> figure(z, BenesFabric.STAGES, z.s()));
        edges.edge("promise 16: SLOTS is K", z -> figure(z, BenesFabric.SLOTS, z.k()));
        edges.edge("promise 16: ACTIVE is the active slot, 0 .. K-1", StartEdgeTest::activeFollowsSelect);
        edges.edge("promise 16: DRAFT_COUNT is the number of pairs, 0 .. N", StartEdgeTest::draftCountFromEmptyToFull);
        edges.edge("promise 16: LATCH_COUNT is the number of latched cells, 0 .. N", StartEdgeTest::latchCountFromEmptyToFull);
        edges.edge("promise 16: FLIGHT_COUNT counts the waves k = 1 .. S-1 together", StartEdgeTest::flightCountFromEmptyToFull);
        edges.edge("promise 16: FLIGHT_COUNT is 0 if S = 1", StartEdgeTest::flightCountWithOneStage);
        edges.edge("promise 16: FLIGHT_COUNT leaves out the wave k = 0", StartEdgeTest::flightCountWithoutFirstWave);
        edges.edge("promise 16: FLIGHT_COUNT leaves out the latch", StartEdgeTest::flightCountWithoutLatch);
        edges.edge("promise 16: any what below 0 is BAD", StartEdgeTest::whatTooSmall);
        edges.edge("promise 16: any what above 6 is BAD", StartEdgeTest::whatTooLarge);
        edges.edge("promise 16: changes nothing", StartEdgeTest::infoChangesNothing);
        check.end();
    }

    private static void info(BenesFabric x, int what, int want) {
        check.due("info(" + what + ")", x.info(what), want);
    }

    /** Looks at the sizes by what is in range, not by info alone. */
    private static void sizes(BenesFabric x, int n, int s, int k) {
        info(x, BenesFabric.PORTS, n);
        info(x, BenesFabric.STAGES, s);
        info(x, BenesFabric.SLOTS, k);
        check.due("drafted(N-1)", x.drafted(n - 1), NONE);
        check.due("drafted(N)", x.drafted(n), BAD);
        check.due("output(N-1, S-1)", x.output(n - 1, s - 1), NONE);
        check.due("output(0, S)", x.output(0, s), BAD);
        check.due("route(K-1, N-1)", x.route(k - 1, n - 1), n - 1);
        check.due("route(K, 0)", x.route(k, 0), BAD);
        x.latch(n - 1, 3);
        for (int t = 1; t < s; t++) {
            check.due("tick() number " + t, x.tick(), 0);
        }
        check.due("tick() number S", x.tick(), 1);
        check.due("output(N-1, 0)", x.output(n - 1, 0), 3);
    }

    private static void logPortsTooSmall(Size z) {
        sizes(new BenesFabric(0, z.k()), 2, 1, z.k());
        for (int log : Size.below0()) {
            sizes(new BenesFabric(log, z.k()), 2, 1, z.k());
        }
    }

    private static void logPortsTooLarge(Size z) {
        for (int log : Size.from(6)) {
            sizes(new BenesFabric(log, z.k()), 32, 9, z.k());
        }
    }

    private static void slotsTooSmall(Size z) {
        sizes(new BenesFabric(z.log(), 0), z.n(), z.s(), 1);
        for (int slots : Size.below0()) {
            sizes(new BenesFabric(z.log(), slots), z.n(), z.s(), 1);
        }
    }

    private static void slotsTooLarge(Size z) {
        for (int slots : Size.from(5)) {
            sizes(new BenesFabric(z.log(), slots), z.n(), z.s(), 4);
        }
    }

    private static void bothOutOfRange(Size z) {
        int[] any = {Check.MIN, Check.MIN + 1, -1, 0, 6, 31, 32, 33, Check.MAX - 1, Check.MAX};
        for (int log : any) {
            for (int slots : any) {
                boolean small = log < 1;
                sizes(new BenesFabric(log, slots), small ? 2 : 32, small ? 1 : 9, slots < 1 ? 1 : 4);
            }
        }
    }

    private static void valuesInRange(Size z) {
        sizes(z.fresh(), z.n(), z.s(), z.k());
    }

    private static void sizesNeverChange(Size z) {
        for (BenesFabric x : new BenesFabric[] {z.busy(), z.full()}) {
            x.load(z.k() - 1);
            x.withdraw(0);
            x.set(0);
            x.clear();
            x.set(z.k() - 1);
            // One tick launches the latch, S more drop all waves.
            for (int t = 0; t < z.s() + 1; t++) {
                x.tick();
            }
            sizes(x, z.n(), z.s(), z.k());
        }
    }

    private static void draftStartsEmpty(Size z) {
        BenesFabric x = z.fresh();
        for (int i = 0; i < z.n(); i++) {
            check.due("drafted(" + i + ")", x.drafted(i), NONE);
        }
        info(x, BenesFabric.DRAFT_COUNT, 0);
        for (int i = 0; i < z.n(); i++) {
            check.due("request(" + i + ", " + i + ")", x.request(i, i), BenesFabric.OK);
        }
    }

    private static void slotsStartStraight(Size z) {
        BenesFabric x = z.fresh();
        for (int slot = 0; slot < z.k(); slot++) {
            for (int i = 0; i < z.n(); i++) {
                check.due("route(" + slot + ", " + i + ")", x.route(slot, i), i);
                check.due("source(" + slot + ", " + i + ")", x.source(slot, i), i);
            }
        }
    }

    private static void slot0StartsActive(Size z) {
        BenesFabric x = z.fresh();
        info(x, BenesFabric.ACTIVE, 0);
        x.fill(1, 1);
        x.set(0);
        x.latch(0, 5);
        x.tick();
        check.due("output(1, S-1)", x.output(1, z.s() - 1), 5);
    }

    private static void latchStartsEmpty(Size z) {
        BenesFabric x = z.fresh();
        info(x, BenesFabric.LATCH_COUNT, 0);
        for (int i = 0; i < z.n(); i++) {
            check.due("latched(" + i + ")", x.latched(i), NONE);
            check.due("latch(" + i + ", 0)", x.latch(i, 0), BenesFabric.OK);
        }
    }

    private static void wavesStartEmpty(Size z) {
        BenesFabric x = z.fresh();
        info(x, BenesFabric.FLIGHT_COUNT, 0);
        for (int k = 0; k < z.s(); k++) {
            for (int o = 0; o < z.n(); o++) {
                check.due("output(" + o + ", " + k + ")", x.output(o, k), NONE);
            }
        }
        for (int t = 0; t < z.s(); t++) {
            check.due("tick() number " + t, x.tick(), 0);
        }
    }

    private static void figure(Size z, int what, int want) {
        info(z.fresh(), what, want);
        info(z.busy(), what, want);
        info(z.full(), what, want);
    }

    private static void activeFollowsSelect(Size z) {
        BenesFabric x = z.fresh();
        for (int slot = z.k() - 1; slot >= 0; slot--) {
            x.select(slot);
            info(x, BenesFabric.ACTIVE, slot);
        }
        info(z.busy(), BenesFabric.ACTIVE, z.k() - 1);
    }

    private static void draftCountFromEmptyToFull(Size z) {
        BenesFabric x = z.fresh();
        for (int i = 0; i < z.n(); i++) {
            info(x, BenesFabric.DRAFT_COUNT, i);
            x.request(z.n() - 1 - i, i);
        }
        info(x, BenesFabric.DRAFT_COUNT, z.n());
        for (int i = 0; i < z.n(); i++) {
            x.withdraw(i);
            info(x, BenesFabric.DRAFT_COUNT, z.n() - 1 - i);
        }
        info(z.full(), BenesFabric.DRAFT_COUNT, z.n());
    }

    private static void latchCountFromEmptyToFull(Size z) {
        BenesFabric x = z.fresh();
        for (int i = 0; i < z.n(); i++) {
            info(x, BenesFabric.LATCH_COUNT, i);
            x.latch(i, i);
        }
        info(x, BenesFabric.LATCH_COUNT, z.n());
        x.tick();
        info(x, BenesFabric.LATCH_COUNT, 0);
        info(z.full(), BenesFabric.LATCH_COUNT, z.n());
    }

    private static void flightCountFromEmptyToFull(Size z) {
        BenesFabric x = z.fresh();
        for (int t = 1; t < z.s() + 2; t++) {
            for (int i = 0; i < z.n(); i++) {
                x.latch(i, 0);
            }
            x.tick();
            info(x, BenesFabric.FLIGHT_COUNT, Math.min(t, z.s() - 1) * z.n());
        }
        for (int t = 1; t < z.s() + 2; t++) {
            x.tick();
            info(x, BenesFabric.FLIGHT_COUNT, Math.max(z.s() - 1 - t, 0) * z.n());
        }
    }

    private static void flightCountWithOneStage(Size z) {
        BenesFabric x = new BenesFabric(1, z.k());
        info(x, BenesFabric.FLIGHT_COUNT, 0);
        x.latch(0, 1);
        x.latch(1, 2);
        info(x, BenesFabric.FLIGHT_COUNT, 0);
        x.tick();
        info(x, BenesFabric.FLIGHT_COUNT, 0);
        x.tick();
        info(x, BenesFabric.FLIGHT_COUNT, 0);
    }

    private static void flightCountWithoutFirstWave(Size z) {
        BenesFabric x = z.fresh();
        x.latch(0, 4);
        for (int t = 1; t < z.s(); t++) {
            x.tick();
            info(x, BenesFabric.FLIGHT_COUNT, 1);
        }
        check.due("tick()", x.tick(), 1);
        info(x, BenesFabric.FLIGHT_COUNT, 0);
    }

    private static void flightCountWithoutLatch(Size z) {
        BenesFabric x = z.busy();
        int before = x.info(BenesFabric.FLIGHT_COUNT);
        for (int i = 0; i < z.n() - 1; i++) {
            x.latch(i, 1);
            info(x, BenesFabric.FLIGHT_COUNT, before);
        }
        BenesFabric fresh = z.fresh();
        fresh.latch(0, 1);
        info(fresh, BenesFabric.FLIGHT_COUNT, 0);
    }

    private static void whatTooSmall(Size z) {
        for (int what : Size.below0()) {
            info(z.fresh(), what, BAD);
            info(z.full(), what, BAD);
        }
    }

    private static void whatTooLarge(Size z) {
        for (int what : Size.from(7)) {
            info(z.fresh(), what, BAD);
            info(z.full(), what, BAD);
        }
    }

    private static void infoChangesNothing(Size z) {
        BenesFabric x = z.full();
        State before = z.fullState();
        for (int what = -2; what <= 8; what++) {
            x.info(what);
            check.same("info(" + what + ")", before, x);
        }
    }
}
