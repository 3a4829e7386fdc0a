import java.util.HashSet;
import java.util.Set;

/** The edges that "What it is" names for the state and for all calls, each in a test of its own. */
public final class RulesEdgeTest {
    private static final Check check = new Check();
    private static final int OK = BenesFabric.OK;
    private static final int NONE = BenesFabric.NONE;
    private static final int BAD = BenesFabric.BAD;
    private static final int INPUT_BUSY = BenesFabric.INPUT_BUSY;
    private static final int OUTPUT_BUSY = BenesFabric.OUTPUT_BUSY;

    public static void main(String[] args) {
        Edges edges = new Edges(check);
        edges.edge("what it is: ports are numbered 0 .. N-1 on either side", RulesEdgeTest::portsOnEitherSide);
        edges.edge("what it is: no input and no output is in two pairs of the draft", RulesEdgeTest::draftHasNoPortTwice);
        edges.edge("what it is: the draft may be empty, partial, or hold all N inputs", RulesEdgeTest::draftOfEveryLength);
        edges.edge("what it is: each setting maps all N inputs one-to-one onto all N outputs", RulesEdgeTest::settingsAreOneToOne);
        edges.edge("what it is: for each input at most one cell in the latch", RulesEdgeTest::latchHasOneCellEach);
        edges.edge("what it is: the wave k is at the outputs after k further ticks", RulesEdgeTest::waveArrivesAfterKTicks);
        edges.edge("what it is: a cell is an int of 0 or more", RulesEdgeTest::cellsAreNeverNegative);
        edges.edge("what it is: cells with equal payloads are still separate cells", RulesEdgeTest::equalPayloadsAreSeparate);
        edges.edge("rules: every call changes only what its promise says", RulesEdgeTest::callsKeepTheOtherParts);
        edges.edge("rules: a call that answers BAD changes nothing", RulesEdgeTest::badChangesNothing);
        edges.edge("rules: a call that answers INPUT_BUSY changes nothing", RulesEdgeTest::inputBusyChangesNothing);
        edges.edge("rules: a call that answers OUTPUT_BUSY changes nothing", RulesEdgeTest::outputBusyChangesNothing);
        edges.edge("rules: a withdraw that answers NONE changes nothing", RulesEdgeTest::withdrawOfNoneChangesNothing);
        edges.edge("rules: the first condition that holds decides the answer", RulesEdgeTest::firstConditionDecides);
        edges.edge("rules: int arithmetic wraps", RulesEdgeTest::arithmeticWraps);
        check.end();
    }

    private static void portsOnEitherSide(Size z) {
        for (int port = -1; port <= z.n(); port++) {
            boolean in = 0 <= port && port < z.n();
            BenesFabric x = z.fresh();
            check.due("route(0, " + port + ")", x.route(0, port), in ? port : BAD);
            check.due("source(0, " + port + ")", x.source(0, port), in ? port : BAD);
            check.due("output(" + port + ", 0)", x.output(port, 0), in ? NONE : BAD);
            check.due("drafted(" + port + ")", x.drafted(port), in ? NONE : BAD);
            check.due("latched(" + port + ")", x.latched(port), in ? NONE : BAD);
            check.due("withdraw(" + port + ")", x.withdraw(port), in ? NONE : BAD);
            check.due("latch(" + port + ", 0)", x.latch(port, 0), in ? OK : BAD);
            check.due("request(" + port + ", " + port + ")", x.request(port, port), in ? OK : BAD);
        }
    }

    private static void draftHasNoPortTwice(Size z) {
        BenesFabric x = z.fresh();
        for (int step = 0; step < 3 * z.n(); step++) {
            int input = 5 * step % z.n();
            x.request(input, 3 * step % z.n());
            oneToOneDraft(x, z);
            x.withdraw((input + 1) % z.n());
            oneToOneDraft(x, z);
            x.fill(step, -step);
            oneToOneDraft(x, z);
            x.withdraw(step % z.n());
            x.withdraw((step + 3) % z.n());
        }
        x.load(0);
        oneToOneDraft(x, z);
    }

    private static void oneToOneDraft(BenesFabric x, Size z) {
        Set<Integer> outputs = new HashSet<>();
        int pairs = 0;
        for (int i = 0; i < z.n(); i++) {
            int output = x.drafted(i);
            if (output != NONE) {
                pairs++;
                outputs.add(output);
            }
        }
        check.due("outputs in " + pairs + " pairs", outputs.size(), pairs);
        check.due("info(DRAFT_COUNT)", x.info(BenesFabric.DRAFT_COUNT), pairs);
    }

    private static void draftOfEveryLength(Size z) {
        BenesFabric x = z.fresh();
        for (int pairs = 0; pairs < z.n(); pairs++) {
            check.due("drafted(" + pairs + ")", x.drafted(pairs), NONE);
            check.due("request(" + pairs + ", " + (z.n() - 1 - pairs) + ")", x.request(pairs, z.n() - 1 - pairs), OK);
            for (int i = 0; i <= pairs; i++) {
                check.due("drafted(" + i + ")", x.drafted(i), z.n() - 1 - i);
            }
        }
    }

    private static void settingsAreOneToOne(Size z) {
        for (int step = 0; step < 2 * z.n(); step++) {
            BenesFabric x = z.busy();
            x.clear();
            x.request(step % z.n(), 3 * step % z.n());
            x.fill(2, step);
            x.set(step % z.k());
            for (int slot = 0; slot < z.k(); slot++) {
                oneToOneSetting(x, z, slot);
            }
        }
    }

    private static void oneToOneSetting(BenesFabric x, Size z, int slot) {
        Set<Integer> outputs = new HashSet<>();
        for (int i = 0; i < z.n(); i++) {
            int output = x.route(slot, i);
            check.due("0 <= route(" + slot + ", " + i + ") < N", 0 <= output && output < z.n());
            outputs.add(output);
            check.due("source of route of " + i, x.source(slot, output), i);
        }
        check.due("outputs of the setting", outputs.size(), z.n());
    }

    private static void latchHasOneCellEach(Size z) {
        BenesFabric x = z.fresh();
        for (int i = 0; i < z.n(); i++) {
            x.latch(i, 30 + i);
            x.latch(i, 90 + i);
            check.due("latched(" + i + ")", x.latched(i), 30 + i);
            check.due("info(LATCH_COUNT)", x.info(BenesFabric.LATCH_COUNT), i + 1);
        }
    }

    private static void waveArrivesAfterKTicks(Size z) {
        for (int k = 0; k < z.s(); k++) {
            BenesFabric x = z.busy();
            int[] cells = new int[z.n()];
            for (int o = 0; o < z.n(); o++) {
                cells[o] = x.output(o, k);
            }
            for (int t = 0; t < k; t++) {
                x.tick();
            }
            for (int o = 0; o < z.n(); o++) {
                check.due("output(" + o + ", 0) after " + k + " ticks", x.output(o, 0), cells[o]);
            }
        }
    }

    private static void cellsAreNeverNegative(Size z) {
        BenesFabric x = z.fresh();
        for (int payload : Size.below0()) {
            check.due("latch(0, " + payload + ")", x.latch(0, payload), BAD);
            check.due("latched(0)", x.latched(0), NONE);
        }
        check.due("tick()", x.tick(), 0);
        check.due("output(0, S-1)", x.output(0, z.s() - 1), NONE);
    }

    private static void equalPayloadsAreSeparate(Size z) {
        BenesFabric x = z.fresh();
        for (int t = 1; t <= z.s(); t++) {
            for (int i = 0; i < z.n(); i++) {
                check.due("latch(" + i + ", 5)", x.latch(i, 5), OK);
            }
            check.due("info(LATCH_COUNT)", x.info(BenesFabric.LATCH_COUNT), z.n());
            check.due("tick()", x.tick(), t == z.s() ? z.n() : 0);
        }
        check.due("info(FLIGHT_COUNT)", x.info(BenesFabric.FLIGHT_COUNT), (z.s() - 1) * z.n());
        for (int o = 0; o < z.n(); o++) {
            check.due("output(" + o + ", 0)", x.output(o, 0), 5);
        }
    }

    private static void callsKeepTheOtherParts(Size z) {
        BenesFabric x = z.busy();
        State before = z.busyState();
        x.request(z.n() - 1, 0);
        check.due("request changes only the draft", State.of(x).sameButDraft(before));
        x.withdraw(0);
        check.due("withdraw changes only the draft", State.of(x).sameButDraft(before));
        x.fill(1, 1);
        check.due("fill changes only the draft", State.of(x).sameButDraft(before));
        x.clear();
        check.due("clear changes only the draft", State.of(x).sameButDraft(before));
        x.load(0);
        check.due("load changes only the draft", State.of(x).sameButDraft(before));
        before = State.of(x);
        x.set(z.k() - 1);
        check.due("set changes only the slots", State.of(x).sameButSlots(before));
        before = State.of(x);
        x.select(0);
        check.due("select changes only the active slot", State.of(x).sameButActive(before));
        before = State.of(x);
        x.latch(0, 9);
        check.due("latch changes only the latch", State.of(x).sameButLatch(before));
        x.tick();
        check.due("tick changes only the latch and the waves", State.of(x).sameButLatchAndWaves(before));
    }

    private static void badChangesNothing(Size z) {
        for (BenesFabric x : new BenesFabric[] {z.fresh(), z.busy(), z.full()}) {
            State before = State.of(x);
            for (int port : Size.outside(z.n())) {
                badPort(x, port);
                check.same("calls with port " + port, before, x);
            }
            for (int slot : Size.outside(z.k())) {
                badSlot(x, slot);
                check.same("calls with slot " + slot, before, x);
            }
            for (int wave : Size.outside(z.s())) {
                bad("output(0, " + wave + ")", x.output(0, wave));
            }
            for (int payload : Size.below0()) {
                bad("latch(0, " + payload + ")", x.latch(0, payload));
                bad("info(" + payload + ")", x.info(payload));
            }
            check.same("calls with wave, payload or kind out of range", before, x);
        }
    }

    private static void bad(String call, int got) {
        check.due(call, got, BAD);
    }

    private static void badPort(BenesFabric x, int port) {
        bad("request(" + port + ", 0)", x.request(port, 0));
        bad("request(0, " + port + ")", x.request(0, port));
        bad("withdraw(" + port + ")", x.withdraw(port));
        bad("route(0, " + port + ")", x.route(0, port));
        bad("source(0, " + port + ")", x.source(0, port));
        bad("latch(" + port + ", 1)", x.latch(port, 1));
        bad("output(" + port + ", 0)", x.output(port, 0));
        bad("drafted(" + port + ")", x.drafted(port));
        bad("latched(" + port + ")", x.latched(port));
    }

    private static void badSlot(BenesFabric x, int slot) {
        bad("set(" + slot + ")", x.set(slot));
        bad("load(" + slot + ")", x.load(slot));
        bad("select(" + slot + ")", x.select(slot));
        bad("route(" + slot + ", 0)", x.route(slot, 0));
        bad("source(" + slot + ", 0)", x.source(slot, 0));
    }

    private static void inputBusyChangesNothing(Size z) {
        BenesFabric x = z.full();
        State before = z.fullState();
        for (int input = 0; input < z.n(); input++) {
            for (int output = 0; output < z.n(); output++) {
                check.due("request(" + input + ", " + output + ")", x.request(input, output), INPUT_BUSY);
            }
            check.due("latch(" + input + ", 99)", x.latch(input, 99), INPUT_BUSY);
            check.same("INPUT_BUSY at " + input, before, x);
        }
    }

    private static void outputBusyChangesNothing(Size z) {
        BenesFabric x = z.busy();
        State before = z.busyState();
        for (int input = 1; input < z.n(); input++) {
            check.due("request(" + input + ", N-1)", x.request(input, z.n() - 1), OUTPUT_BUSY);
            check.same("request(" + input + ", N-1)", before, x);
        }
        // The input of a refused pair is still free for another output.
        check.due("request(1, 0)", x.request(1, 0), OK);
    }

    private static void withdrawOfNoneChangesNothing(Size z) {
        BenesFabric x = z.busy();
        State before = z.busyState();
        for (int input = 1; input < z.n(); input++) {
            check.due("withdraw(" + input + ")", x.withdraw(input), NONE);
            check.same("withdraw(" + input + ")", before, x);
        }
        BenesFabric fresh = z.fresh();
        State start = State.of(fresh);
        check.due("withdraw(0)", fresh.withdraw(0), NONE);
        check.same("withdraw(0)", start, fresh);
    }

    private static void firstConditionDecides(Size z) {
        BenesFabric x = z.full();
        int n = z.n();
        // Out of range and busy at once is BAD; busy on both sides is INPUT_BUSY.
        check.due("request(0, N)", x.request(0, n), BAD);
        check.due("request(0, -1)", x.request(0, -1), BAD);
        check.due("request(N, 0)", x.request(n, 0), BAD);
        check.due("request(-1, 0)", x.request(-1, 0), BAD);
        check.due("request(0, 0)", x.request(0, 0), INPUT_BUSY);
        check.due("latch(0, -1)", x.latch(0, -1), BAD);
        check.due("latch(0, 0)", x.latch(0, 0), INPUT_BUSY);
        // Out of range and empty at once is BAD, not NONE.
        BenesFabric fresh = z.fresh();
        check.due("withdraw(N)", fresh.withdraw(n), BAD);
        check.due("drafted(N)", fresh.drafted(n), BAD);
        check.due("latched(N)", fresh.latched(n), BAD);
        check.due("output(N, 0)", fresh.output(n, 0), BAD);
        check.due("output(0, S)", fresh.output(0, z.s()), BAD);
    }

    private static void arithmeticWraps(Size z) {
        int mask = z.n() - 1;
        for (int mul : new int[] {Check.MIN, Check.MIN + 1, -1, 1, 1 << 30, Check.MAX}) {
            for (int add : new int[] {Check.MIN, Check.MIN + 1, -1, 1, 1 << 30, Check.MAX}) {
                BenesFabric x = z.fresh();
                x.fill(mul, add);
                check.due("fill(" + mul + ", " + add + "), drafted(0)", x.drafted(0), add & mask);
                int second = (mul & mask) + (add & mask) & mask;
                boolean free = second != (add & mask);
                check.due("fill(" + mul + ", " + add + "), drafted(1)", x.drafted(1), free ? second : NONE);
            }
        }
    }
}
