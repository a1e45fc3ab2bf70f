/** "An object is used for at most 512 calls after it has been made": all of these, of the dearest kinds, hold. */
public final class CallsTest {
    private static final int CALLS = 512;
    private static final Due DUE = new Due();

    private final ScriptLedger x = new ScriptLedger(999);
    private int calls;

    public static void main(String[] args) {
        new CallsTest().definitions();
        new CallsTest().runs();
        new CallsTest().blocks();
        new CallsTest().parts();
        new CallsTest().transactions();
        new CallsTest().losses();
        DUE.end();
    }

    private boolean hasCallsLeft(int more) {
        return calls + more <= CALLS;
    }

    private void same(String call, int got, int want) {
        calls++;
        DUE.same("call " + calls + ": " + call, got, want);
    }

    private void yes(String call, boolean got) {
        same(call, got ? 1 : 0, 1);
    }

    private void define(int... bytes) {
        for (int each : bytes) {
            yes("type", x.type(each, 1));
        }
        calls++;
        x.define();
    }

    private void definitions() {
        for (int i = 0; hasCallsLeft(2); i++) {
            yes("type", x.type(8, 1));
            same("define", x.define(), i < 6 ? i : -1);
        }
        DUE.same("calls", calls, CALLS);
    }

    /** A run that makes as much as 99 steps can, and then a short one as the last call. */
    private void runs() {
        int[] grower = Program.lambda(Program.lambda(Program.apply(Program.variable(1), Program.variable(1),
            Program.builtin(Program.CONS, Program.integer(1), Program.variable(0)))));
        define(Program.apply(grower, grower, Program.nil()));
        define(Program.script(Program.builtin(Program.EQUAL, Program.variable(2), Program.variable(1))));
        while (hasCallsLeft(3)) {
            same("a long run", x.run(0, calls, 0, 99), 3);
        }
        same("a short run", x.run(1, 511, 511, 99), 0);
        same("its steps", x.result(1), 9);
        DUE.same("calls", calls, CALLS);
    }

    private void blocks() {
        for (int height = 1; height <= 40; height++) {
            same("block", x.block(), height);
        }
        while (hasCallsLeft(3)) {
            same("a 41st", x.block(), -1);
            same("rollback", x.rollback(1), 2);
            same("block", x.block(), 40);
        }
        same("height", x.height(), 40);
        DUE.same("calls", calls, CALLS);
    }

    /** One transaction that is begun again and again; at last it is submitted. */
    private void parts() {
        while (hasCallsLeft(16)) {
            for (int i = 0; i < 3; i++) {
                yes("spend", x.spend(i, 0));
                yes("give", x.give(0, 0, 5, 5, 5));
            }
            yes("mint", x.mint(1, 5, 5));
            yes("terms", x.terms(50, 3, 4, 3, 99));
            calls++;
            x.begin();
        }
        yes("spend", x.spend(0, 0));
        yes("give", x.give(3, 0, 1479, 0, 0));
        yes("terms", x.terms(20, 0, 40, 1, 0));
        same("submit", x.submit(), 0);
        while (hasCallsLeft(1)) {
            same("coin", x.about(2, 0), 1479);
        }
        DUE.same("calls", calls, CALLS);
    }

    /** As many transactions with a script as have room, the outputs taken back when there are 48. */
    private void transactions() {
        define(Program.script(Program.yes()));
        int coin = 1499;
        int latest = 0;
        int outputs = 2;
        while (hasCallsLeft(10)) {
            yes("spend", x.spend(latest, 0));
            yes("give", x.give(0, 0, coin - 10, 0, 0));
            yes("mint", x.mint(1, 1, 0));
            yes("give", x.give(0, 0, 0, 1, 0));
            yes("guarantee", x.guarantee(1));
            yes("terms", x.terms(10, 0, 40, 3, 9));
            same("submit", x.submit(), 0);
            coin -= 10;
            latest = outputs;
            outputs += 2;
            same("steps", x.result(1), 9);
            if (outputs == 48) {
                same("pot", x.pot(), 1499 - coin);
                same("rollback", x.rollback(0), 2);
                coin = 1499;
                latest = 0;
                outputs = 2;
            }
        }
        same("outputs", x.outputs(), outputs);
        same("total", x.total(1), outputs / 2 - 1);
    }

    /** Guarantees are lost and come back with a rollback. */
    private void losses() {
        define(Program.script(Program.endless()));
        while (hasCallsLeft(10)) {
            yes("spend", x.spend(0, 0));
            yes("give", x.give(0, 0, 1400, 5, 0));
            yes("mint", x.mint(1, 5, 0));
            yes("guarantee", x.guarantee(1));
            yes("terms", x.terms(99, 0, 40, 3, 99));
            same("submit", x.submit(), 1);
            same("steps", x.result(1), 99);
            same("pot", x.pot(), 1499);
            same("rollback", x.rollback(0), 2);
        }
        same("coin", x.total(0), 2998);
    }
}
