import java.math.BigInteger;

/** The edges that promises 2, 3, 4, 5 and 14 name, each in a test of its own: request, withdraw, clear, fill, drafted. */
public final class DraftEdgeTest {
    private static final Check check = new Check();
    private static final int OK = BenesFabric.OK;
    private static final int NONE = BenesFabric.NONE;
    private static final int BAD = BenesFabric.BAD;
    private static final int INPUT_BUSY = BenesFabric.INPUT_BUSY;
    private static final int OUTPUT_BUSY = BenesFabric.OUTPUT_BUSY;
    private static final int[] FACTORS = {
        Check.MIN, Check.MIN + 1, -(1 << 30) - 1, -65537, -33, -3, -2, -1, 0, 1, 2, 3, 31, 32, 33, 65537, 715827883, Check.MAX - 1, Check.MAX};

    public static void main(String[] args) {
        Edges edges = new Edges(check);
        edges.edge("promise 2: BAD if input is below 0", DraftEdgeTest::requestInputTooSmall);
        edges.edge("promise 2: BAD if input is above N-1", DraftEdgeTest::requestInputTooLarge);
        edges.edge("promise 2: BAD if output is below 0", DraftEdgeTest::requestOutputTooSmall);
        edges.edge("promise 2: BAD if output is above N-1", DraftEdgeTest::requestOutputTooLarge);
        edges.edge("promise 2: BAD for an output out of range comes before INPUT_BUSY", DraftEdgeTest::requestBadBeforeBusy);
        edges.edge("promise 2: INPUT_BUSY if the draft has a pair with this input", DraftEdgeTest::requestInputBusy);
        edges.edge("promise 2: INPUT_BUSY even if it is the same pair", DraftEdgeTest::requestSamePair);
        edges.edge("promise 2: OUTPUT_BUSY if the draft has a pair with this output", DraftEdgeTest::requestOutputBusy);
        edges.edge("promise 2: the first and the last port are in range", DraftEdgeTest::requestEndPorts);
        edges.edge("promise 2: both in pairs is INPUT_BUSY", DraftEdgeTest::requestBothBusy);
        edges.edge("promise 2: with all N inputs drafted every request in range is INPUT_BUSY", DraftEdgeTest::requestOnFullDraft);
        edges.edge("promise 2: with any answer but OK nothing changes", DraftEdgeTest::requestRefusedChangesNothing);
        edges.edge("promise 2: with OK only the draft changes, by this one pair", DraftEdgeTest::requestAddsOnlyOnePair);

        edges.edge("promise 3: BAD if input is below 0", DraftEdgeTest::withdrawTooSmall);
        edges.edge("promise 3: BAD if input is above N-1", DraftEdgeTest::withdrawTooLarge);
        edges.edge("promise 3: NONE from an empty draft", DraftEdgeTest::withdrawFromEmptyDraft);
        edges.edge("promise 3: NONE if the draft has no pair with this input", DraftEdgeTest::withdrawOfUnpairedInput);
        edges.edge("promise 3: the answer is the pair's output, 0 .. N-1", DraftEdgeTest::withdrawAnswersEveryOutput);
        edges.edge("promise 3: with BAD or NONE nothing changes", DraftEdgeTest::withdrawRefusedChangesNothing);
        edges.edge("promise 3: the input and the output are then both without a pair", DraftEdgeTest::withdrawFreesBothSides);
        edges.edge("promise 3: only that pair leaves the draft", DraftEdgeTest::withdrawKeepsTheOtherPairs);

        edges.edge("promise 4: the answer is the number of pairs, 0 .. N", DraftEdgeTest::clearCounts);
        edges.edge("promise 4: an empty draft answers 0 and nothing changes", DraftEdgeTest::clearOfEmptyDraft);
        edges.edge("promise 4: the draft is empty, on both sides", DraftEdgeTest::clearFreesBothSides);
        edges.edge("promise 4: the other parts stay", DraftEdgeTest::clearKeepsTheRest);

        edges.edge("promise 5: never refused, for any mul and add", DraftEdgeTest::fillIsNeverRefused);
        edges.edge("promise 5: nothing is done for an input that has a pair", DraftEdgeTest::fillSkipsPairedInputs);
        edges.edge("promise 5: the product wraps", DraftEdgeTest::fillProductWraps);
        edges.edge("promise 5: the sum wraps", DraftEdgeTest::fillSumWraps);
        edges.edge("promise 5: the output is in range also for a negative mul", DraftEdgeTest::fillNegativeMul);
        edges.edge("promise 5: the output is in range also for a negative add", DraftEdgeTest::fillNegativeAdd);
        edges.edge("promise 5: an output paired before the call is not paired again", DraftEdgeTest::fillMeetsOlderPairs);
        edges.edge("promise 5: an output that this call has paired is not paired again", DraftEdgeTest::fillMeetsItsOwnPairs);
        edges.edge("promise 5: no other output is tried", DraftEdgeTest::fillTriesNoOtherOutput);
        edges.edge("promise 5: the answer is the number of pairs added, 0 .. N", DraftEdgeTest::fillCounts);
        edges.edge("promise 5: with all N inputs drafted the answer is 0 and nothing changes", DraftEdgeTest::fillOfFullDraft);
        edges.edge("promise 5: pairs from before stay unchanged", DraftEdgeTest::fillKeepsOlderPairs);
        edges.edge("promise 5: the other parts stay", DraftEdgeTest::fillKeepsTheRest);

        edges.edge("promise 14: BAD if input is below 0", DraftEdgeTest::draftedTooSmall);
        edges.edge("promise 14: BAD if input is above N-1", DraftEdgeTest::draftedTooLarge);
        edges.edge("promise 14: NONE if the draft is empty", DraftEdgeTest::draftedOfEmptyDraft);
        edges.edge("promise 14: NONE if the draft has no pair with this input", DraftEdgeTest::draftedOfUnpairedInput);
        edges.edge("promise 14: the answer is the pair's output, 0 .. N-1", DraftEdgeTest::draftedAnswersEveryOutput);
        edges.edge("promise 14: changes nothing", DraftEdgeTest::draftedChangesNothing);
        check.end();
    }

    private static void request(BenesFabric x, int input, int output, int want) {
        check.due("request(" + input + ", " + output + ")", x.request(input, output), want);
    }

    private static void withdraw(BenesFabric x, int input, int want) {
        check.due("withdraw(" + input + ")", x.withdraw(input), want);
    }

    private static void fill(BenesFabric x, int mul, int add, int want) {
        check.due("fill(" + mul + ", " + add + ")", x.fill(mul, add), want);
    }

    private static void drafted(BenesFabric x, int input, int want) {
        check.due("drafted(" + input + ")", x.drafted(input), want);
    }

    private static void draftCount(BenesFabric x, int want) {
        check.due("info(DRAFT_COUNT)", x.info(BenesFabric.DRAFT_COUNT), want);
    }

    // In a busy fabric input 0 and output N-1 are paired, input N-1 and output 0 are not.

    private static void requestInputTooSmall(Size z) {
        requestInputsOutside(z, Size.below0());
    }

    private static void requestInputTooLarge(Size z) {
        requestInputsOutside(z, Size.from(z.n()));
    }

    private static void requestInputsOutside(Size z, int[] inputs) {
        BenesFabric x = z.busy();
        for (int input : inputs) {
            request(x, input, 0, BAD);
            request(x, input, z.n() - 1, BAD);
            request(x, input, input, BAD);
        }
        draftCount(x, 1);
    }

    private static void requestOutputTooSmall(Size z) {
        requestOutputsOutside(z, Size.below0());
    }

    private static void requestOutputTooLarge(Size z) {
        requestOutputsOutside(z, Size.from(z.n()));
    }

    private static void requestOutputsOutside(Size z, int[] outputs) {
        BenesFabric x = z.busy();
        for (int output : outputs) {
            request(x, z.n() - 1, output, BAD);
        }
        draftCount(x, 1);
        drafted(x, z.n() - 1, NONE);
    }

    private static void requestBadBeforeBusy(Size z) {
        BenesFabric x = z.busy();
        for (int output : Size.outside(z.n())) {
            request(x, 0, output, BAD);
        }
        BenesFabric full = z.full();
        for (int output : Size.outside(z.n())) {
            request(full, z.n() - 1, output, BAD);
        }
    }

    private static void requestInputBusy(Size z) {
        BenesFabric x = z.busy();
        for (int output = 0; output < z.n() - 1; output++) {
            request(x, 0, output, INPUT_BUSY);
        }
    }

    private static void requestSamePair(Size z) {
        BenesFabric x = z.busy();
        request(x, 0, z.n() - 1, INPUT_BUSY);
        request(x, z.n() - 1, 0, OK);
        request(x, z.n() - 1, 0, INPUT_BUSY);
    }

    private static void requestOutputBusy(Size z) {
        BenesFabric x = z.busy();
        for (int input = 1; input < z.n(); input++) {
            request(x, input, z.n() - 1, OUTPUT_BUSY);
        }
        BenesFabric zero = z.fresh();
        zero.request(z.n() - 1, 0);
        request(zero, 0, 0, OUTPUT_BUSY);
    }

    private static void requestEndPorts(Size z) {
        for (int input : new int[] {0, z.n() - 1}) {
            for (int output : new int[] {0, z.n() - 1}) {
                BenesFabric x = z.fresh();
                request(x, input, output, OK);
                drafted(x, input, output);
            }
        }
    }

    private static void requestBothBusy(Size z) {
        BenesFabric x = z.busy();
        request(x, z.n() - 1, 0, OK);
        request(x, 0, 0, INPUT_BUSY);
        request(x, z.n() - 1, z.n() - 1, INPUT_BUSY);
    }

    private static void requestOnFullDraft(Size z) {
        BenesFabric x = z.fresh();
        for (int i = 0; i < z.n(); i++) {
            request(x, i, z.n() - 1 - i, OK);
        }
        draftCount(x, z.n());
        for (int input = 0; input < z.n(); input++) {
            for (int output = 0; output < z.n(); output++) {
                request(x, input, output, INPUT_BUSY);
            }
        }
    }

    private static void requestRefusedChangesNothing(Size z) {
        BenesFabric x = z.busy();
        State before = z.busyState();
        for (int out : Size.outside(z.n())) {
            x.request(out, 0);
            x.request(z.n() - 1, out);
            check.same("request with " + out, before, x);
        }
        for (int port = 0; port < z.n(); port++) {
            x.request(0, port);
            check.same("request(0, " + port + ")", before, x);
            x.request(port, z.n() - 1);
            check.same("request(" + port + ", N-1)", before, x);
        }
    }

    private static void requestAddsOnlyOnePair(Size z) {
        BenesFabric x = z.busy();
        State before = z.busyState();
        request(x, z.n() - 1, 0, OK);
        check.due("request changes only the draft", State.of(x).sameButDraft(before));
        drafted(x, 0, z.n() - 1);
        drafted(x, z.n() - 1, 0);
        draftCount(x, 2);
        for (int i = 1; i < z.n() - 1; i++) {
            drafted(x, i, NONE);
            request(x, i, 0, OUTPUT_BUSY);
            request(x, i, i, OK);
        }
    }

    private static void withdrawTooSmall(Size z) {
        withdrawsOutside(z, Size.below0());
    }

    private static void withdrawTooLarge(Size z) {
        withdrawsOutside(z, Size.from(z.n()));
    }

    private static void withdrawsOutside(Size z, int[] inputs) {
        for (int input : inputs) {
            withdraw(z.fresh(), input, BAD);
            withdraw(z.full(), input, BAD);
        }
    }

    private static void withdrawFromEmptyDraft(Size z) {
        BenesFabric x = z.busy();
        x.clear();
        for (int input = 0; input < z.n(); input++) {
            withdraw(z.fresh(), input, NONE);
            withdraw(x, input, NONE);
        }
    }

    private static void withdrawOfUnpairedInput(Size z) {
        BenesFabric x = z.busy();
        for (int input = 1; input < z.n(); input++) {
            withdraw(x, input, NONE);
        }
        withdraw(x, 0, z.n() - 1);
        withdraw(x, 0, NONE);
    }

    private static void withdrawAnswersEveryOutput(Size z) {
        BenesFabric x = z.full();
        for (int input = 0; input < z.n(); input++) {
            withdraw(x, input, z.fullOutput(input));
            draftCount(x, z.n() - 1 - input);
        }
    }

    private static void withdrawRefusedChangesNothing(Size z) {
        BenesFabric x = z.busy();
        State before = z.busyState();
        for (int input : Size.outside(z.n())) {
            x.withdraw(input);
            check.same("withdraw(" + input + ")", before, x);
        }
        for (int input = 1; input < z.n(); input++) {
            x.withdraw(input);
            check.same("withdraw(" + input + ")", before, x);
        }
    }

    private static void withdrawFreesBothSides(Size z) {
        BenesFabric x = z.busy();
        withdraw(x, 0, z.n() - 1);
        drafted(x, 0, NONE);
        request(x, 0, 0, OK);
        request(x, 1, z.n() - 1, OK);
        withdraw(x, 0, 0);
        withdraw(x, 1, z.n() - 1);
        draftCount(x, 0);
        check.due("fill(1, 0) of the emptied draft", x.fill(1, 0), z.n());
    }

    private static void withdrawKeepsTheOtherPairs(Size z) {
        for (int gone = 0; gone < z.n(); gone++) {
            BenesFabric x = z.full();
            State before = z.fullState();
            withdraw(x, gone, z.fullOutput(gone));
            check.due("withdraw changes only the draft", State.of(x).sameButDraft(before));
            for (int i = 0; i < z.n(); i++) {
                drafted(x, i, i == gone ? NONE : z.fullOutput(i));
                request(x, gone, z.fullOutput(i), i == gone ? OK : OUTPUT_BUSY);
                x.withdraw(gone);
            }
        }
    }

    private static void clearCounts(Size z) {
        BenesFabric x = z.fresh();
        for (int pairs = 0; pairs <= z.n(); pairs++) {
            for (int i = 0; i < pairs; i++) {
                x.request(z.n() - 1 - i, i);
            }
            check.due("clear() of " + pairs + " pairs", x.clear(), pairs);
        }
        check.due("clear() of a full draft", z.full().clear(), z.n());
    }

    private static void clearOfEmptyDraft(Size z) {
        BenesFabric fresh = z.fresh();
        State start = State.of(fresh);
        check.due("clear() at the start", fresh.clear(), 0);
        check.same("clear() at the start", start, fresh);
        BenesFabric x = z.busy();
        x.withdraw(0);
        State before = State.of(x);
        check.due("clear() of an empty draft", x.clear(), 0);
        check.due("clear() again", x.clear(), 0);
        check.same("clear() of an empty draft", before, x);
    }

    private static void clearFreesBothSides(Size z) {
        BenesFabric x = z.full();
        x.clear();
        draftCount(x, 0);
        for (int i = 0; i < z.n(); i++) {
            drafted(x, i, NONE);
        }
        for (int i = 0; i < z.n(); i++) {
            request(x, i, i, OK);
        }
    }

    private static void clearKeepsTheRest(Size z) {
        for (BenesFabric x : new BenesFabric[] {z.busy(), z.full()}) {
            State before = State.of(x);
            x.clear();
            check.due("clear changes only the draft", State.of(x).sameButDraft(before));
        }
    }

    private static void fillIsNeverRefused(Size z) {
        for (int mul : FACTORS) {
            for (int add : FACTORS) {
                fillsByTheRule(z, mul, add);
            }
        }
    }

    /** The rule worked in unbounded numbers: a power of two divides the difference that wrapping makes. */
    private static void fillsByTheRule(Size z, int mul, int add) {
        BenesFabric x = z.fresh();
        int[] want = new int[z.n()];
        boolean[] taken = new boolean[z.n()];
        int added = 0;
        for (int i = 0; i < z.n(); i++) {
            BigInteger sum = BigInteger.valueOf(mul).multiply(BigInteger.valueOf(i)).add(BigInteger.valueOf(add));
            int output = sum.mod(BigInteger.valueOf(z.n())).intValue();
            want[i] = taken[output] ? NONE : output;
            added += taken[output] ? 0 : 1;
            taken[output] = true;
        }
        fill(x, mul, add, added);
        for (int i = 0; i < z.n(); i++) {
            check.due("after fill(" + mul + ", " + add + ") drafted(" + i + ")", x.drafted(i), want[i]);
        }
    }

    private static void fillSkipsPairedInputs(Size z) {
        // Input 0 would get the free output 0 if it had no pair.
        BenesFabric x = z.busy();
        fill(x, 1, 0, z.n() - 2);
        drafted(x, 0, z.n() - 1);
        draftCount(x, z.n() - 1);
        request(x, z.n() - 1, 0, OK);
    }

    private static void fillProductWraps(Size z) {
        // 3 * MAX is MAX - 2 once it has wrapped; MAX itself acts as -1, MAX - 1 as -2 and MIN as 0.
        fillsByTheRule(z, Check.MAX, 0);
        fillsByTheRule(z, Check.MAX - 1, 0);
        fillsByTheRule(z, Check.MIN, 1);
        fillsByTheRule(z, Check.MIN + 1, 1);
        BenesFabric x = z.fresh();
        fill(x, Check.MAX, 0, z.n());
        for (int i = 0; i < z.n(); i++) {
            drafted(x, i, i == 0 ? 0 : z.n() - i);
        }
    }

    private static void fillSumWraps(Size z) {
        // 1 + MAX wraps to MIN, whose low bits are all 0.
        BenesFabric x = z.fresh();
        fill(x, 1, Check.MAX, z.n());
        drafted(x, 0, z.n() - 1);
        for (int i = 1; i < z.n(); i++) {
            drafted(x, i, i - 1);
        }
        BenesFabric y = z.fresh();
        fill(y, -1, Check.MIN, z.n());
        drafted(y, 0, 0);
        for (int i = 1; i < z.n(); i++) {
            drafted(y, i, z.n() - i);
        }
    }

    private static void fillNegativeMul(Size z) {
        BenesFabric x = z.fresh();
        fill(x, -1, 0, z.n());
        drafted(x, 0, 0);
        for (int i = 1; i < z.n(); i++) {
            drafted(x, i, z.n() - i);
        }
    }

    private static void fillNegativeAdd(Size z) {
        for (int add = -1; add >= -z.n(); add--) {
            BenesFabric x = z.fresh();
            fill(x, 0, add, 1);
            drafted(x, 0, z.n() + add);
        }
    }

    private static void fillMeetsOlderPairs(Size z) {
        BenesFabric x = z.busy();
        // Every input but 0 asks for the output of input 0's pair.
        fill(x, 0, z.n() - 1, 0);
        for (int i = 1; i < z.n(); i++) {
            drafted(x, i, NONE);
        }
        // The last input's pair is older than the call too, though it comes last in the call's order.
        BenesFabric y = z.fresh();
        y.request(z.n() - 1, 0);
        fill(y, 0, 0, 0);
        draftCount(y, 1);
    }

    private static void fillMeetsItsOwnPairs(Size z) {
        BenesFabric x = z.fresh();
        fill(x, 0, 1, 1);
        drafted(x, 0, 1);
        BenesFabric y = z.fresh();
        fill(y, 2, 1, z.n() / 2);
        for (int i = 0; i < z.n(); i++) {
            drafted(y, i, i < z.n() / 2 ? 2 * i + 1 : NONE);
        }
    }

    private static void fillTriesNoOtherOutput(Size z) {
        BenesFabric x = z.fresh();
        fill(x, 0, 0, 1);
        for (int i = 1; i < z.n(); i++) {
            drafted(x, i, NONE);
        }
        for (int output = 1; output < z.n(); output++) {
            request(x, output, output, OK);
        }
    }

    private static void fillCounts(Size z) {
        for (int pairs = 0; pairs <= z.n(); pairs++) {
            BenesFabric x = z.fresh();
            for (int i = 0; i < pairs; i++) {
                x.request(i, i);
            }
            fill(x, 1, 0, z.n() - pairs);
            draftCount(x, z.n());
        }
    }

    private static void fillOfFullDraft(Size z) {
        BenesFabric x = z.full();
        State before = z.fullState();
        for (int mul : FACTORS) {
            fill(x, mul, mul, 0);
            fill(x, mul, 1, 0);
        }
        check.same("fill of a full draft", before, x);
    }

    private static void fillKeepsOlderPairs(Size z) {
        for (int kept = 0; kept < z.n(); kept++) {
            BenesFabric x = z.fresh();
            x.request(kept, z.n() - 1 - kept);
            // Input N-1-kept asks for the output that is taken, and output kept stays without a pair.
            fill(x, 1, 0, z.n() - 2);
            for (int i = 0; i < z.n(); i++) {
                drafted(x, i, i == kept ? z.n() - 1 - kept : i == z.n() - 1 - kept ? NONE : i);
            }
        }
    }

    private static void fillKeepsTheRest(Size z) {
        BenesFabric x = z.busy();
        State before = z.busyState();
        x.fill(1, 0);
        x.fill(3, 1);
        check.due("fill changes only the draft", State.of(x).sameButDraft(before));
    }

    private static void draftedTooSmall(Size z) {
        draftedOutside(z, Size.below0());
    }

    private static void draftedTooLarge(Size z) {
        draftedOutside(z, Size.from(z.n()));
    }

    private static void draftedOutside(Size z, int[] inputs) {
        for (int input : inputs) {
            drafted(z.fresh(), input, BAD);
            drafted(z.full(), input, BAD);
        }
    }

    private static void draftedOfEmptyDraft(Size z) {
        BenesFabric x = z.busy();
        x.clear();
        for (int input = 0; input < z.n(); input++) {
            drafted(z.fresh(), input, NONE);
            drafted(x, input, NONE);
        }
    }

    private static void draftedOfUnpairedInput(Size z) {
        BenesFabric x = z.busy();
        for (int input = 1; input < z.n(); input++) {
            drafted(x, input, NONE);
        }
        x.withdraw(0);
        drafted(x, 0, NONE);
    }

    private static void draftedAnswersEveryOutput(Size z) {
        BenesFabric x = z.full();
        for (int input = 0; input < z.n(); input++) {
            drafted(x, input, z.fullOutput(input));
        }
    }

    private static void draftedChangesNothing(Size z) {
        BenesFabric x = z.busy();
        State before = z.busyState();
        for (int input = -1; input <= z.n(); input++) {
            x.drafted(input);
            check.same("drafted(" + input + ")", before, x);
        }
    }
}
