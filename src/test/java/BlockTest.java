/** Promises 13, 14 and 19: block, rollback and height. */
public final class BlockTest {
    private static final Due DUE = new Due();
    /** Kinds of transactions in a Chain that no height up to 9 has. */
    private static final int OTHER_PASS = 30;
    private static final int OTHER_LOSS = 31;
    private static final int THIRD_PASS = 33;

    public static void main(String[] args) {
        blocks();
        rollbacksThatAreRefused();
        asItWasThen();
        asItWasThenAgain();
        takesBack();
        takesBackTheSeized();
        respent();
        staysAsItIs();
        fromTheTop();
        DUE.end();
    }

    private static void blocks() {
        ScriptLedger x = new ScriptLedger(0);
        DUE.same("height", x.height(), 0);
        for (int height = 1; height <= 40; height++) {
            DUE.same("block", x.block(), height);
            DUE.same("height", x.height(), height);
        }
        DUE.same("a 41st", x.block(), -1);
        DUE.same("height", x.height(), 40);
        DUE.same("rollback", x.rollback(1), 2);
        DUE.same("block again", x.block(), 40);
        DUE.same("a 41st", x.block(), -1);
    }

    /** "-1 when k is not 0 .. 4 or more than the height". */
    private static void rollbacksThatAreRefused() {
        for (int height : new int[] {0, 1, 2, 3, 4, 5, 6, 39, 40}) {
            for (int k : new int[] {Integer.MIN_VALUE, -1, 0, 1, 2, 3, 4, 5, 6, 39, 40, 41, Integer.MAX_VALUE}) {
                ScriptLedger x = new ScriptLedger(0);
                for (int i = 0; i < height; i++) {
                    x.block();
                }
                boolean isRefused = k < 0 || k > 4 || k > height;
                DUE.same("rollback(" + k + ") at " + height, x.rollback(k), isRefused ? -1 : 2);
                DUE.same("height", x.height(), isRefused ? height : height - k);
            }
        }
    }

    /** A transaction at each height, of three kinds by turns; one of them loses its guarantee. */
    private static final class Chain {
        final ScriptLedger x = new ScriptLedger(999);
        private int main;
        private int coin = 1499;
        private int spare;
        private int outputs = 2;

        Chain() {
            Program.define(x, Program.error());
        }

        /** Up to the beginning of a height. */
        Chain to(int height) {
            for (int i = 0; i < height; i++) {
                act(i);
                DUE.same("block", x.block(), i + 1);
            }
            return this;
        }

        void act(int kind) {
            if (kind % 3 == 1) {
                Deal deal = new Deal().input(main, 0).mint(1, 1, 0).gift(0, 0, coin - 20, 1, 0);
                DUE.same("a guarantee is lost", deal.fee(20).signers(1).budget(9).guarantee(spare).submit(DUE, x), 1);
                return;
            }
            Deal deal = new Deal().input(main, 0).gift(0, kind, coin - 60 - kind, 0, 0).gift(0, 0, 50, 0, 0);
            DUE.same("a pass", deal.fee(10 + kind).signers(1).submit(DUE, x), 0);
            main = outputs;
            spare = outputs + 1;
            coin -= 60 + kind;
            outputs += 2;
        }
    }

    private static void alike(String name, Chain one, Chain other) {
        DUE.same(name, Seen.ofLedger(one.x), Seen.ofLedger(other.x));
    }

    /**
     * "Takes back all that transactions did since the height became the height less k (or since the beginning)":
     * the ledger is as that of an object which came to that height and stopped there.
     */
    private static void asItWasThen() {
        for (int height = 0; height <= 9; height++) {
            for (int k = 0; k <= 4 && k <= height; k++) {
                Chain back = new Chain().to(height);
                back.act(height);
                Chain then = new Chain().to(height - k);
                DUE.same("rollback(" + k + ") at " + height, back.x.rollback(k), then.outputs);
                alike("rollback(" + k + ") at " + height, back, then);
            }
        }
    }

    /** The same when blocks were taken back before, and others came in their place. */
    private static void asItWasThenAgain() {
        for (int k = 0; k <= 4; k++) {
            Chain then = new Chain().to(6 - k);
            goOn(then);
            alike("back by " + k + ", on by 2", backAndOn(k), then);
            for (int again = 0; again <= 4; again++) {
                then = new Chain().to(Math.min(6 - k, 8 - k - again));
                if (again < 2) {
                    then.act(OTHER_PASS);
                    then.x.block();
                }
                if (again < 1) {
                    then.act(THIRD_PASS);
                    then.x.block();
                }
                Chain back = backAndOn(k);
                back.x.rollback(again);
                alike("back by " + k + ", on by 2, back by " + again, back, then);
            }
        }
    }

    private static Chain backAndOn(int k) {
        Chain chain = new Chain().to(6);
        chain.act(6);
        chain.x.rollback(k);
        copyPlace(new Chain().to(6 - k), chain);
        goOn(chain);
        return chain;
    }

    private static void copyPlace(Chain from, Chain to) {
        to.main = from.main;
        to.spare = from.spare;
        to.coin = from.coin;
        to.outputs = from.outputs;
    }

    /** Two blocks more, with other transactions, and one in the block under way. */
    private static void goOn(Chain chain) {
        chain.act(OTHER_PASS);
        chain.x.block();
        chain.act(THIRD_PASS);
        chain.x.block();
        chain.act(OTHER_LOSS);
    }

    /** Spends an output of a key whole into one that the same key locks. */
    private static int pass(ScriptLedger x, int output, int fee) {
        x.spend(output, 0);
        x.give(x.about(output, 3), output, x.about(output, 0) - fee, 0, 0);
        x.terms(fee, 0, 40, 15, 0);
        return x.submit();
    }

    private static void is(ScriptLedger x, int outputs, int pot, int height, int... spent) {
        DUE.same("outputs", x.outputs(), outputs);
        DUE.same("pot", x.pot(), pot);
        DUE.same("height", x.height(), height);
        DUE.same("coin", x.total(0), 1000 - pot);
        for (int i = 0; i < spent.length; i++) {
            DUE.same("output " + i + " is spent", x.about(i, 5), spent[i]);
        }
        DUE.same("one behind the last", x.about(outputs, 0), -1);
    }

    private static ScriptLedger grown() {
        ScriptLedger x = new ScriptLedger(0);
        DUE.same("pass at 0", pass(x, 0, 10), 0);
        x.block();
        DUE.same("pass at 1", pass(x, 2, 20), 0);
        x.block();
        x.block();
        DUE.same("pass at 3", pass(x, 1, 30), 0);
        DUE.same("pass at 3", pass(x, 3, 40), 0);
        x.block();
        DUE.same("pass at 4", pass(x, 4, 50), 0);
        is(x, 7, 150, 4, 1, 1, 1, 1, 1, 0, 0);
        return x;
    }

    private static void takesBack() {
        ScriptLedger x = grown();
        DUE.same("rollback(0)", x.rollback(0), 6);
        is(x, 6, 100, 4, 1, 1, 1, 1, 0, 0);
        DUE.same("rollback(0) again", x.rollback(0), 6);
        is(x, 6, 100, 4, 1, 1, 1, 1, 0, 0);
        x = grown();
        DUE.same("rollback(1)", x.rollback(1), 4);
        is(x, 4, 30, 3, 1, 0, 1, 0);
        x = grown();
        DUE.same("rollback(2)", x.rollback(2), 4);
        is(x, 4, 30, 2, 1, 0, 1, 0);
        x = grown();
        DUE.same("rollback(3)", x.rollback(3), 3);
        is(x, 3, 10, 1, 1, 0, 0);
        x = grown();
        DUE.same("rollback(4)", x.rollback(4), 2);
        is(x, 2, 0, 0, 0, 0);
        x = grown();
        DUE.same("rollback(1)", x.rollback(1), 4);
        DUE.same("pass at 3", pass(x, 3, 60), 0);
        is(x, 5, 90, 3, 1, 0, 1, 1, 0);
        DUE.same("the height behind begins anew", x.block(), 4);
        DUE.same("pass at 4", pass(x, 1, 70), 0);
        is(x, 6, 160, 4, 1, 1, 1, 1, 0, 0);
        DUE.same("rollback(0)", x.rollback(0), 5);
        is(x, 5, 90, 4, 1, 0, 1, 1, 0);
        DUE.same("rollback(3)", x.rollback(3), 3);
        is(x, 3, 10, 1, 1, 0, 0);
    }

    private static void takesBackTheSeized() {
        ScriptLedger x = new ScriptLedger(0);
        Program.define(x, Program.script(Program.error()));
        x.block();
        x.spend(0, 0);
        x.mint(1, 5, 0);
        x.give(0, 0, 480, 5, 0);
        x.guarantee(1);
        x.terms(20, 0, 40, 3, 99);
        DUE.same("a script fails", x.submit(), 1);
        is(x, 2, 500, 1, 0, 1);
        x.block();
        DUE.same("rollback(0)", x.rollback(0), 2);
        is(x, 2, 500, 2, 0, 1);
        DUE.same("rollback(1)", x.rollback(1), 2);
        is(x, 2, 0, 1, 0, 0);
    }

    /** An output that is made anew under a number that was there before is not spent. */
    private static void respent() {
        ScriptLedger x = new ScriptLedger(0);
        x.block();
        DUE.same("pass", pass(x, 0, 10), 0);
        DUE.same("pass", pass(x, 2, 10), 0);
        DUE.same("rollback(0)", x.rollback(0), 2);
        DUE.same("pass", pass(x, 1, 10), 0);
        is(x, 3, 10, 1, 0, 1, 0);
        DUE.same("lock", x.about(2, 3), 1);
    }

    private static void staysAsItIs() {
        ScriptLedger x = new ScriptLedger(0);
        x.block();
        Program.define(x, Program.script(Program.yes()));
        x.run(0, 0, 0, 99);
        Program.type(x, 3);
        x.spend(0, 0);
        x.give(2, 0, 480, 0, 0);
        x.terms(20, 0, 40, 1, 0);
        DUE.same("rollback(1)", x.rollback(1), 2);
        DUE.same("the transaction stays", x.submit(), 0);
        DUE.same("the draft stays", Program.define(x, 4), 1);
        DUE.same("the result stays", x.result(1), 9);
        DUE.same("the script stays", x.run(0, 0, 0, 99), 0);
        x.rollback(0);
        DUE.same("the script stays", x.run(0, 0, 0, 99), 0);
        DUE.same("its number stays", Program.define(x, 8), 2);
    }

    private static void fromTheTop() {
        ScriptLedger x = new ScriptLedger(0);
        int[] pots = new int[41];
        int latest = 0;
        for (int height = 0; height < 40; height++) {
            pots[height] = x.pot();
            DUE.same("pass", pass(x, latest, 7), 0);
            latest = x.outputs() - 1;
            x.block();
        }
        for (int height = 36; height >= 0; height -= 4) {
            DUE.same("rollback(4)", x.rollback(4), 2 + height);
            DUE.same("height", x.height(), height);
            DUE.same("pot", x.pot(), pots[height]);
        }
        is(x, 2, 0, 0, 0, 0);
    }
}
