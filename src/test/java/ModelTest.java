/** All promises at once: long runs of mixed calls, each answer and the whole state compared with the model. */
public final class ModelTest {
    private static final Check check = new Check();
    private static final int[] ODD = {Check.MIN, Check.MIN + 1, -3, -2, -1, 32, 33, 256, 1 << 16, Check.MAX - 1, Check.MAX};

    private final int log;
    private final int slots;
    private final BenesFabric real;
    private final Model model;
    // The test's own generator, so that the runs are the same on every machine.
    private long seed;

    private ModelTest(int log, int slots, long seed) {
        this.log = log;
        this.slots = slots;
        this.seed = seed;
        real = new BenesFabric(log, slots);
        model = new Model(log, slots);
    }

    public static void main(String[] args) {
        for (int log = 0; log <= 6; log++) {
            for (int slots = 0; slots <= 5; slots++) {
                for (int run = 0; run < 6; run++) {
                    new ModelTest(log, slots, 1000L * log + 100L * slots + run).run(400);
                }
            }
        }
        check.end();
    }

    private void run(int calls) {
        check.part("run of (" + log + ", " + slots + ")");
        sameState("the constructor");
        int wrongBefore = check.wrong();
        for (int i = 0; i < calls && check.wrong() == wrongBefore; i++) {
            sameState(oneCall());
        }
    }

    private int below(int bound) {
        seed = seed * 6364136223846793005L + 1442695040888963407L;
        return (int) ((seed >>> 33) % bound);
    }

    private int anyInt() {
        int low = below(1 << 16);
        return below(1 << 16) << 16 | low;
    }

    private int near(int size) {
        int kind = below(16);
        if (kind == 0) return ODD[below(ODD.length)];
        if (kind == 1) return size - 1 + below(3);
        return below(size);
    }

    private int port() {
        return near(model.info(0));
    }

    private int slot() {
        return near(model.info(2));
    }

    private int payload() {
        int kind = below(8);
        if (kind == 0) return ODD[below(ODD.length)];
        return kind == 1 ? 0 : below(4);
    }

    private String oneCall() {
        int a;
        int b;
        switch (below(20)) {
            case 0: case 1: case 2: case 3:
                a = port(); b = port();
                return due("request(" + a + ", " + b + ")", real.request(a, b), model.request(a, b));
            case 4: case 5:
                a = port();
                return due("withdraw(" + a + ")", real.withdraw(a), model.withdraw(a));
            case 6:
                return due("clear()", real.clear(), model.clear());
            case 7:
                a = below(2) == 0 ? anyInt() : near(8); b = anyInt();
                return due("fill(" + a + ", " + b + ")", real.fill(a, b), model.fill(a, b));
            case 8: case 9:
                a = slot();
                return due("set(" + a + ")", real.set(a), model.set(a));
            case 10:
                a = slot();
                return due("load(" + a + ")", real.load(a), model.load(a));
            case 11: case 12:
                a = slot();
                return due("select(" + a + ")", real.select(a), model.select(a));
            case 13: case 14: case 15: case 16:
                a = port(); b = payload();
                return due("latch(" + a + ", " + b + ")", real.latch(a, b), model.latch(a, b));
            case 17:
                return looks();
            default:
                return due("tick()", real.tick(), model.tick());
        }
    }

    private String looks() {
        int a = slot();
        int b = port();
        int c = near(model.info(1));
        due("route(" + a + ", " + b + ")", real.route(a, b), model.route(a, b));
        due("source(" + a + ", " + b + ")", real.source(a, b), model.source(a, b));
        due("output(" + b + ", " + c + ")", real.output(b, c), model.output(b, c));
        due("drafted(" + b + ")", real.drafted(b), model.drafted(b));
        due("latched(" + b + ")", real.latched(b), model.latched(b));
        due("info(" + c + ")", real.info(c), model.info(c));
        return "the calls that only look";
    }

    private String due(String call, int got, int want) {
        check.due(call, got, want);
        return call;
    }

    private void sameState(String call) {
        int n = model.info(0);
        String after = " after " + call;
        for (int i = 0; i < n; i++) {
            check.due("drafted(" + i + ")" + after, real.drafted(i), model.drafted(i));
            check.due("latched(" + i + ")" + after, real.latched(i), model.latched(i));
            for (int slot = 0; slot < model.info(2); slot++) {
                check.due("route(" + slot + ", " + i + ")" + after, real.route(slot, i), model.route(slot, i));
                check.due("source(" + slot + ", " + i + ")" + after, real.source(slot, i), model.source(slot, i));
            }
            for (int k = 0; k < model.info(1); k++) {
                check.due("output(" + i + ", " + k + ")" + after, real.output(i, k), model.output(i, k));
            }
        }
        for (int what = -1; what <= 7; what++) {
            check.due("info(" + what + ")" + after, real.info(what), model.info(what));
        }
    }
}
