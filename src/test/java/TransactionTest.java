/** Promises 6 to 11: the transaction that is being made. */
public final class TransactionTest {
    private static final int[] FAR = {Integer.MAX_VALUE, Integer.MIN_VALUE};

    public static void main(String[] args) {
        Due due = new Due();
        begin(due);
        spend(due);
        give(due);
        mint(due);
        terms(due);
        guarantee(due);
        due.end();
    }

    /** Spends output 0 of a new object with no coins more, and gives all of it back but the fee. */
    private static int pay(ScriptLedger x, int fee) {
        x.spend(0, 0);
        x.give(2, 0, 500 - fee, 0, 0);
        x.terms(fee, 0, 40, 1, 0);
        return x.submit();
    }

    private static void begin(Due due) {
        ScriptLedger x = new ScriptLedger(0);
        x.spend(0, 0);
        x.spend(1, 0);
        x.spend(2, 0);
        x.give(0, 0, 1, 1, 1);
        x.give(0, 0, 1, 1, 1);
        x.give(0, 0, 1, 1, 1);
        x.mint(1, 5, 5);
        x.mint(2, 5, 5);
        x.terms(900, 7, 8, 15, 99);
        x.guarantee(1);
        x.begin();
        due.same("nothing is left of it", pay(x, 7), 0);
        due.same("outputs", x.outputs(), 3);
        x.begin();
        due.same("begin makes no input", x.submit(), 2);
        emptyTerms(due);
        emptyGuarantee(due);
    }

    private static void emptyTerms(Due due) {
        ScriptLedger x = new ScriptLedger(0);
        x.terms(6, 1, 1, 1, 0);
        x.begin();
        x.spend(0, 0);
        due.same("fee 0, not the interval, is what is wrong", x.submit(), 5);
        x.terms(500, 0, 40, 1, 0);
        x.begin();
        x.spend(0, 0);
        x.terms(500, 0, 40, 0, 0);
        due.same("no signers", x.submit(), 7);
        for (int i = 0; i < 40; i++) {
            x.block();
        }
        x.spend(0, 0);
        due.same("40 is in the interval of an empty one", x.submit(), 5);
    }

    private static void emptyGuarantee(Due due) {
        ScriptLedger x = new ScriptLedger(0);
        Program.define(x, Program.script(Program.yes()));
        x.guarantee(1);
        x.begin();
        x.spend(0, 0);
        x.mint(1, 5, 0);
        x.give(0, 0, 480, 5, 0);
        x.terms(20, 0, 40, 3, 99);
        due.same("no guarantee", x.submit(), 9);
    }

    private static void spend(Due due) {
        ScriptLedger x = new ScriptLedger(0);
        due.no("spend(-1)", x.spend(-1, 0));
        due.no("spend of the least", x.spend(Integer.MIN_VALUE, 0));
        due.same("what is refused is no input", x.submit(), 2);
        due.yes("spend(0)", x.spend(0, 0));
        due.no("spend(0) again", x.spend(0, 0));
        due.no("spend(0) with another redeemer", x.spend(0, 1));
        due.yes("spend of what is not there", x.spend(47, 0));
        due.no("spend(47) again", x.spend(47, 0));
        due.yes("spend of the most", x.spend(Integer.MAX_VALUE, 0));
        due.no("a fourth", x.spend(1, 0));
        due.no("a fourth that is among them", x.spend(0, 0));
        due.same("not there", x.submit(), 3);
        due.yes("spend(0) in the next one", x.spend(0, 0));
        due.yes("spend(1) in the next one", x.spend(1, 0));
        x.give(0, 0, 500, 0, 0);
        x.terms(500, 0, 40, 3, 0);
        due.same("both are spent", x.submit(), 0);
        due.same("0 is spent", x.about(0, 5), 1);
        due.same("1 is spent", x.about(1, 5), 1);
    }

    private static void give(Due due) {
        ScriptLedger x = new ScriptLedger(0);
        for (int lock : new int[] {-1, 10, FAR[0], FAR[1]}) {
            due.no("lock " + lock, x.give(lock, 0, 0, 0, 0));
        }
        for (int amount : new int[] {-1, 1000001, FAR[0], FAR[1]}) {
            due.no("coin " + amount, x.give(0, 0, amount, 0, 0));
            due.no("first " + amount, x.give(0, 0, 0, amount, 0));
            due.no("second " + amount, x.give(0, 0, 0, 0, amount));
        }
        due.yes("the most of all", x.give(9, Integer.MAX_VALUE, 1000000, 1000000, 1000000));
        due.yes("nothing", x.give(0, Integer.MIN_VALUE, 0, 0, 0));
        due.yes("a third", x.give(4, -5, 1, 0, 0));
        due.no("a fourth", x.give(0, 0, 0, 0, 0));
        x.begin();
        x.spend(0, 0);
        due.yes("a key", x.give(3, -7, 400, 0, 0));
        due.yes("a script that is not defined", x.give(9, Integer.MIN_VALUE, 89, 0, 0));
        due.yes("an output of nothing", x.give(0, 0, 0, 0, 0));
        x.terms(11, 0, 40, 1, 0);
        due.same("submit", x.submit(), 0);
        isOutput(due, x, 2, 400, 0, 0, 3, -7, 0);
        isOutput(due, x, 3, 89, 0, 0, 9, Integer.MIN_VALUE, 0);
        isOutput(due, x, 4, 0, 0, 0, 0, 0, 0);
        due.yes("give in the next one", x.give(0, 0, 0, 0, 0));
    }

    private static void isOutput(Due due, ScriptLedger x, int output, int... parts) {
        for (int what = 0; what < parts.length; what++) {
            due.same("about(" + output + ", " + what + ")", x.about(output, what), parts[what]);
        }
    }

    private static void mint(Due due) {
        ScriptLedger x = new ScriptLedger(0);
        for (int asset : new int[] {-1, 0, 3, FAR[0], FAR[1]}) {
            due.no("mint of asset " + asset, x.mint(asset, 1, 0));
        }
        for (int amount : new int[] {-1000001, 1000001, FAR[0], FAR[1]}) {
            due.no("mint of " + amount, x.mint(1, amount, 0));
            due.no("mint of " + amount, x.mint(2, amount, 0));
        }
        due.yes("the most", x.mint(1, 1000000, 0));
        due.yes("the least", x.mint(2, -1000000, 0));
        due.yes("none of it", x.mint(1, 0, 0));
        due.yes("none of it", x.mint(2, 0, 0));
        due.same("only what was said last holds", pay(x, 7), 0);
        latestMint(due);
    }

    /** The policy wants the amount to be the redeemer, so that both are seen to be replaced. */
    private static void latestMint(Due due) {
        ScriptLedger x = new ScriptLedger(0);
        int[] same = Program.builtin(Program.EQUAL, Program.variable(2), Program.variable(1));
        Program.define(x, Program.script(same));
        x.spend(0, 0);
        x.mint(1, 9, 9);
        x.mint(1, 1000001, 3);
        x.mint(1, 5, 8);
        x.mint(1, 6, 6);
        x.give(0, 0, 489, 6, 0);
        x.terms(11, 0, 40, 3, 30);
        x.guarantee(1);
        due.same("the latest amount and redeemer", x.submit(), 0);
        due.same("total", x.total(1), 6);
        x.spend(2, 0);
        x.mint(1, -6, -6);
        x.give(0, 0, 478, 0, 0);
        x.terms(11, 0, 40, 3, 30);
        x.guarantee(1);
        due.same("taken away", x.submit(), 0);
        due.same("total", x.total(1), 0);
    }

    private static void terms(Due due) {
        ScriptLedger x = new ScriptLedger(0);
        for (int fee : new int[] {-1, 1000001, FAR[0], FAR[1]}) {
            due.no("fee " + fee, x.terms(fee, 0, 40, 0, 0));
        }
        for (int signers : new int[] {-1, 16, FAR[0], FAR[1]}) {
            due.no("signers " + signers, x.terms(0, 0, 40, signers, 0));
        }
        for (int budget : new int[] {-1, 100, FAR[0], FAR[1]}) {
            due.no("budget " + budget, x.terms(0, 0, 40, 0, budget));
        }
        due.yes("the most of all", x.terms(1000000, FAR[0], FAR[0], 15, 99));
        due.yes("the least of all", x.terms(0, FAR[1], FAR[1], 0, 0));
        due.yes("an interval of no height", x.terms(0, 5, 3, 0, 0));
        x.begin();
        x.spend(0, 0);
        x.give(2, 0, 490, 0, 0);
        due.yes("good ones", x.terms(10, 0, 0, 1, 24));
        due.no("refused ones", x.terms(10, 1, 1, 1, 100));
        due.no("refused ones", x.terms(11, 1, 1, 16, 0));
        due.same("what is refused changes nothing", x.submit(), 0);
        due.same("pot", x.pot(), 10);
    }

    private static void guarantee(Due due) {
        ScriptLedger x = new ScriptLedger(0);
        due.no("guarantee(-1)", x.guarantee(-1));
        due.no("guarantee of the least", x.guarantee(Integer.MIN_VALUE));
        due.yes("guarantee(0)", x.guarantee(0));
        due.yes("guarantee of what is not there", x.guarantee(Integer.MAX_VALUE));
        x.begin();
        Program.define(x, Program.script(Program.yes()));
        x.spend(0, 0);
        x.mint(1, 5, 0);
        x.give(0, 0, 480, 5, 0);
        x.terms(20, 0, 40, 3, 99);
        due.yes("one that is not there", x.guarantee(9));
        due.yes("another one in its place", x.guarantee(1));
        due.no("a refused one", x.guarantee(-1));
        due.same("the latest that was not refused holds", x.submit(), 0);
        due.same("the guarantee is not spent", x.about(1, 5), 0);
    }
}
