/** Promises 2, 3, 4, 5 and 14: request, withdraw, clear, fill and drafted. */
public final class DraftTest {
    private static final Check check = new Check();
    private static final int OK = BenesFabric.OK;
    private static final int NONE = BenesFabric.NONE;
    private static final int BAD = BenesFabric.BAD;

    public static void main(String[] args) {
        requestAddsOnePair();
        requestRefuses();
        requestOnFullDraft();
        withdrawRemovesOnePair();
        withdrawRefuses();
        clearEmpties();
        fillFollowsTheRule();
        fillWraps();
        fillKeepsPairs();
        draftedAnswers();
        check.end();
    }

    /** A fabric with 8 ports in which every part of the state holds something. */
    static BenesFabric busy() {
        BenesFabric x = new BenesFabric(3, 3);
        x.fill(3, 1);
        x.set(1);
        x.select(1);
        x.latch(0, 10);
        x.latch(4, 11);
        x.tick();
        x.latch(2, 12);
        x.tick();
        x.latch(7, 13);
        x.clear();
        return x;
    }

    private static void requestAddsOnePair() {
        check.part("promise 2, pairs");
        BenesFabric x = busy();
        State before = State.of(x);
        check.due("request(0, 7)", x.request(0, 7), OK);
        check.due("request(7, 0)", x.request(7, 0), OK);
        check.due("request(3, 3)", x.request(3, 3), OK);
        for (int i = 0; i < 8; i++) {
            int want = i == 0 ? 7 : i == 7 ? 0 : i == 3 ? 3 : NONE;
            check.due("drafted(" + i + ")", x.drafted(i), want);
        }
        check.due("info(DRAFT_COUNT)", x.info(BenesFabric.DRAFT_COUNT), 3);
        check.due("request changes only the draft", State.of(x).sameButDraft(before));
    }

    private static void requestRefuses() {
        check.part("promise 2, refusals");
        BenesFabric x = busy();
        x.request(2, 5);
        x.request(0, 0);
        State before = State.of(x);
        check.due("request(2, 5)", x.request(2, 5), BenesFabric.INPUT_BUSY);
        check.due("request(2, 6)", x.request(2, 6), BenesFabric.INPUT_BUSY);
        check.due("request(2, 0)", x.request(2, 0), BenesFabric.INPUT_BUSY);
        check.due("request(3, 5)", x.request(3, 5), BenesFabric.OUTPUT_BUSY);
        check.due("request(5, 0)", x.request(5, 0), BenesFabric.OUTPUT_BUSY);
        for (int out : new int[] {Check.MIN, -1, 8, 9, 32, Check.MAX}) {
            check.due("request(" + out + ", 1)", x.request(out, 1), BAD);
            check.due("request(" + out + ", 5)", x.request(out, 5), BAD);
            check.due("request(1, " + out + ")", x.request(1, out), BAD);
            check.due("request(2, " + out + ")", x.request(2, out), BAD);
            check.due("request(" + out + ", " + out + ")", x.request(out, out), BAD);
        }
        check.same("a refused request", before, x);
    }

    private static void requestOnFullDraft() {
        check.part("promise 2, full draft");
        for (int log = 1; log <= 5; log++) {
            BenesFabric x = new BenesFabric(log, 1);
            int n = 1 << log;
            for (int i = 0; i < n; i++) {
                check.due("request", x.request(i, n - 1 - i), OK);
            }
            State before = State.of(x);
            for (int i = 0; i < n; i++) {
                for (int o = 0; o < n; o++) {
                    check.due("request(" + i + ", " + o + ")", x.request(i, o), BenesFabric.INPUT_BUSY);
                }
            }
            check.due("request(N, 0)", x.request(n, 0), BAD);
            check.due("request(0, N)", x.request(0, n), BAD);
            check.same("request on a full draft", before, x);
        }
    }

    private static void withdrawRemovesOnePair() {
        check.part("promise 3, pairs");
        BenesFabric x = busy();
        x.request(0, 6);
        x.request(7, 0);
        x.request(4, 4);
        State before = State.of(x);
        check.due("withdraw(0)", x.withdraw(0), 6);
        check.due("drafted(0)", x.drafted(0), NONE);
        check.due("drafted(7)", x.drafted(7), 0);
        check.due("drafted(4)", x.drafted(4), 4);
        check.due("info(DRAFT_COUNT)", x.info(BenesFabric.DRAFT_COUNT), 2);
        check.due("withdraw changes only the draft", State.of(x).sameButDraft(before));
        check.due("withdraw(7)", x.withdraw(7), 0);
        check.due("withdraw(0) again", x.withdraw(0), NONE);
        // Both sides of a removed pair can be paired anew.
        check.due("request(0, 0)", x.request(0, 0), OK);
        check.due("request(7, 6)", x.request(7, 6), OK);
        check.due("withdraw(7)", x.withdraw(7), 6);
    }

    private static void withdrawRefuses() {
        check.part("promise 3, refusals");
        BenesFabric x = busy();
        x.request(3, 5);
        State before = State.of(x);
        for (int out : new int[] {Check.MIN, -1, 8, 9, 32, Check.MAX}) {
            check.due("withdraw(" + out + ")", x.withdraw(out), BAD);
        }
        check.due("withdraw(0)", x.withdraw(0), NONE);
        // 5 is an output of the draft, not an input.
        check.due("withdraw(5)", x.withdraw(5), NONE);
        check.same("a refused withdraw", before, x);
    }

    private static void clearEmpties() {
        check.part("promise 4");
        BenesFabric x = busy();
        State before = State.of(x);
        check.due("clear() of an empty draft", x.clear(), 0);
        check.same("clear of an empty draft", before, x);
        x.request(0, 7);
        x.request(6, 1);
        check.due("clear()", x.clear(), 2);
        check.same("request, request, clear", before, x);
        check.due("clear() again", x.clear(), 0);
        x.load(1);
        check.due("clear() of a full draft", x.clear(), 8);
        for (int i = 0; i < 8; i++) {
            check.due("request after clear", x.request(i, 7 - i), OK);
        }
        check.due("clear()", x.clear(), 8);
        check.due("clear changes only the draft", State.of(x).sameButDraft(before));
        BenesFabric wide = new BenesFabric(5, 1);
        wide.fill(1, 0);
        check.due("clear() of 32 pairs", wide.clear(), 32);
    }

    private static void fillFollowsTheRule() {
        check.part("promise 5, rule");
        BenesFabric x = busy();
        State before = State.of(x);
        check.due("fill(5, 3)", x.fill(5, 3), 8);
        int[] want = {3, 0, 5, 2, 7, 4, 1, 6};
        for (int i = 0; i < 8; i++) {
            check.due("drafted(" + i + ")", x.drafted(i), want[i]);
        }
        State full = State.of(x);
        check.due("fill(1, 0) of a full draft", x.fill(1, 0), 0);
        check.same("fill of a full draft", full, x);
        check.due("fill changes only the draft", State.of(x).sameButDraft(before));
        x.clear();
        // Every input asks for output 6; the first one gets it, the others get none.
        check.due("fill(0, 6)", x.fill(0, 6), 1);
        check.due("drafted(0)", x.drafted(0), 6);
        check.due("drafted(1)", x.drafted(1), NONE);
        check.due("fill(0, 6) again", x.fill(0, 6), 0);
        x.clear();
        check.due("fill(2, 1)", x.fill(2, 1), 4);
        for (int i = 0; i < 8; i++) {
            check.due("drafted(" + i + ")", x.drafted(i), i < 4 ? 2 * i + 1 : NONE);
        }
        check.due("fill(2, 0)", x.fill(2, 0), 4);
        for (int i = 0; i < 8; i++) {
            check.due("drafted(" + i + ")", x.drafted(i), i < 4 ? 2 * i + 1 : 2 * (i - 4));
        }
    }

    private static void fillWraps() {
        check.part("promise 5, any ints");
        int[] values = {Check.MIN, Check.MIN + 1, -1000003, -33, -3, -1, 0, 1, 7, 31, 32, 715827883, Check.MAX - 1, Check.MAX};
        for (int log = 1; log <= 5; log++) {
            int n = 1 << log;
            for (int mul : values) {
                for (int add : values) {
                    fillOnce(new BenesFabric(log, 1), n, mul, add);
                }
            }
        }
    }

    private static void fillOnce(BenesFabric x, int n, int mul, int add) {
        boolean[] taken = new boolean[n];
        int[] want = new int[n];
        int added = 0;
        for (int i = 0; i < n; i++) {
            int o = (int) Math.floorMod((long) i * mul + add, (long) n);
            want[i] = taken[o] ? NONE : o;
            added += taken[o] ? 0 : 1;
            taken[o] = true;
        }
        String call = "fill(" + mul + ", " + add + ") with N = " + n;
        check.due(call, x.fill(mul, add), added);
        for (int i = 0; i < n; i++) {
            check.due(call + ", drafted(" + i + ")", x.drafted(i), want[i]);
        }
    }

    private static void fillKeepsPairs() {
        check.part("promise 5, pairs from before");
        BenesFabric x = new BenesFabric(2, 1);
        x.request(1, 3);
        x.request(2, 0);
        // Input 0 asks for 0, which is taken, and tries no other; input 3 asks for 3, taken too.
        check.due("fill(1, 0)", x.fill(1, 0), 0);
        check.due("drafted(0)", x.drafted(0), NONE);
        check.due("drafted(3)", x.drafted(3), NONE);
        // Inputs 1 and 2 have pairs already; input 3 asks for 0, which is taken.
        check.due("fill(1, 1)", x.fill(1, 1), 1);
        check.due("drafted(0)", x.drafted(0), 1);
        check.due("drafted(1)", x.drafted(1), 3);
        check.due("drafted(2)", x.drafted(2), 0);
        check.due("drafted(3)", x.drafted(3), NONE);
        check.due("fill(1, 3)", x.fill(1, 3), 1);
        check.due("drafted(3)", x.drafted(3), 2);
        check.due("withdraw(3)", x.withdraw(3), 2);
        check.due("request(3, 1)", x.request(3, 1), BenesFabric.OUTPUT_BUSY);
        check.due("request(3, 2)", x.request(3, 2), OK);
    }

    private static void draftedAnswers() {
        check.part("promise 14");
        BenesFabric x = busy();
        x.request(0, 7);
        x.request(7, 0);
        State before = State.of(x);
        check.due("drafted(0)", x.drafted(0), 7);
        check.due("drafted(0) again", x.drafted(0), 7);
        check.due("drafted(7)", x.drafted(7), 0);
        check.due("drafted(3)", x.drafted(3), NONE);
        for (int out : new int[] {Check.MIN, -1, 8, 9, 31, 32, Check.MAX}) {
            check.due("drafted(" + out + ")", x.drafted(out), BAD);
        }
        check.same("drafted", before, x);
        BenesFabric wide = new BenesFabric(5, 1);
        wide.request(31, 30);
        check.due("drafted(31)", wide.drafted(31), 30);
        check.due("drafted(30)", wide.drafted(30), NONE);
        check.due("drafted(32)", wide.drafted(32), BAD);
    }
}
