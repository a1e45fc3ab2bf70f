/** Promises 6 to 11: the transaction that is being made, and what "Terms" says of it. */
public final class TransactionTest {
    private static final Due DUE = new Due();
    private static final int MOST = Integer.MAX_VALUE;
    private static final int LEAST = Integer.MIN_VALUE;
    private static final int[] NO_AMOUNTS = {-1, 1000001, MOST, LEAST};

    public static void main(String[] args) {
        begin();
        emptyInterval();
        emptyGuarantee();
        threeInputs();
        inputsTwice();
        inputsBelowZero();
        threeNewOutputs();
        locks();
        amounts();
        whatIsGiven();
        assetsToMint();
        amountsToMint();
        mintInPlace();
        fees();
        signers();
        budgets();
        anyInterval();
        termsInPlace();
        guarantees();
        guaranteeInPlace();
        DUE.end();
    }

    private static void submit(String name, ScriptLedger x, Deal deal, int answer) {
        DUE.same(name, deal.submit(DUE, x), answer);
    }

    private static Deal pay(int fee) {
        return new Deal().input(0, 0).gift(2, 0, 500 - fee, 0, 0).fee(fee).signers(1);
    }

    /** "Makes the transaction empty": none of its parts is left. */
    private static void begin() {
        ScriptLedger x = new ScriptLedger(0);
        new Deal().input(0, 0).input(1, 0).input(2, 0).gift(0, 0, 1, 1, 1).gift(0, 0, 1, 1, 1).gift(0, 0, 1, 1, 1)
            .mint(1, 5, 5).mint(2, 5, 5).fee(900).within(7, 8).signers(15).budget(99).guarantee(1).make(DUE, x);
        x.begin();
        submit("nothing is left of it", x, pay(7), 0);
        DUE.same("outputs", x.outputs(), 3);
        x = new ScriptLedger(0);
        pay(7).make(DUE, x);
        x.begin();
        DUE.same("no input is left", x.submit(), 2);
        x.begin();
        x.begin();
        DUE.same("begin makes no input", x.submit(), 2);
        submit("a begin between two does not matter", x, pay(7), 0);
    }

    /** "An empty one has fee 0, the interval 0 .. 40": at both ends the fee is what is wrong. */
    private static void emptyInterval() {
        for (int height = 0; height <= 40; height += 20) {
            ScriptLedger x = new ScriptLedger(0);
            for (int i = 0; i < height; i++) {
                x.block();
            }
            x.spend(0, 0);
            DUE.same("a new object's at " + height, x.submit(), 5);
            x.spend(0, 0);
            DUE.same("a submitted one's at " + height, x.submit(), 5);
            x.terms(500, 41, 50, 1, 0);
            x.begin();
            x.spend(0, 0);
            DUE.same("one's that was begun at " + height, x.submit(), 5);
        }
    }

    private static void emptyGuarantee() {
        ScriptLedger x = new ScriptLedger(0);
        Program.define(x, Program.script(Program.yes()));
        x.guarantee(1);
        x.begin();
        Deal deal = new Deal().input(0, 0).mint(1, 5, 0).gift(0, 0, 480, 5, 0).fee(20).signers(3).budget(99);
        submit("no guarantee is left", x, deal, 9);
    }

    /** "at most 3 INPUTS"; "False when there are 3". */
    private static void threeInputs() {
        ScriptLedger x = new ScriptLedger(0);
        submit("split", x, new Deal().input(0, 0).coin(200).coin(200).coin(80).fee(20).signers(1), 0);
        DUE.yes("a first", x.spend(2, 0));
        DUE.yes("a second", x.spend(3, 0));
        DUE.yes("a third", x.spend(4, 0));
        DUE.no("a fourth", x.spend(1, 0));
        DUE.no("a fourth that is not there", x.spend(5, 0));
        DUE.no("a fourth that is among them", x.spend(2, 0));
        x.terms(480, 0, 40, 15, 0);
        DUE.same("three are spent", x.submit(), 0);
        for (int output = 0; output < 5; output++) {
            DUE.same("output " + output + " is spent", x.about(output, 5), output == 1 ? 0 : 1);
        }
        DUE.yes("a first in the next one", x.spend(1, 0));
    }

    /** "or the number is among them". */
    private static void inputsTwice() {
        ScriptLedger x = new ScriptLedger(0);
        DUE.yes("a first", x.spend(0, 0));
        DUE.no("the first again", x.spend(0, 0));
        DUE.no("the first with another redeemer", x.spend(0, 1));
        DUE.yes("a second", x.spend(47, 0));
        DUE.no("the first again", x.spend(0, 0));
        DUE.no("the second again", x.spend(47, 0));
        DUE.yes("a third", x.spend(48, 0));
        x.begin();
        DUE.yes("not among them any more", x.spend(0, 0));
    }

    /** "or below 0 (whether there is such an output is not looked at)". */
    private static void inputsBelowZero() {
        for (int output : new int[] {-1, -2, LEAST}) {
            ScriptLedger x = new ScriptLedger(0);
            DUE.no("spend of " + output, x.spend(output, 0));
            DUE.same("what is refused is no input", x.submit(), 2);
        }
        for (int output : new int[] {0, 1, 2, 47, 48, MOST}) {
            ScriptLedger x = new ScriptLedger(0);
            DUE.yes("spend of " + output, x.spend(output, 0));
            x.terms(500, 0, 40, 15, 0);
            DUE.same("whether it is there is seen by submit", x.submit(), output < 2 ? 0 : 3);
        }
    }

    /** "at most 3 new outputs". */
    private static void threeNewOutputs() {
        ScriptLedger x = new ScriptLedger(0);
        DUE.yes("a first", x.give(3, -7, 400, 0, 0));
        DUE.yes("a second", x.give(9, LEAST, 89, 0, 0));
        DUE.yes("a third", x.give(0, 0, 0, 0, 0));
        DUE.no("a fourth", x.give(0, 0, 0, 0, 0));
        x.spend(0, 0);
        x.terms(11, 0, 40, 1, 0);
        DUE.same("three are made", x.submit(), 0);
        DUE.same("outputs", x.outputs(), 5);
        DUE.yes("a first in the next one", x.give(0, 0, 0, 0, 0));
    }

    /** "lock is not 0 .. 9". */
    private static void locks() {
        for (int lock : new int[] {-1, 10, MOST, LEAST}) {
            DUE.no("lock " + lock, new ScriptLedger(0).give(lock, 0, 0, 0, 0));
        }
        for (int lock = 0; lock <= 9; lock++) {
            ScriptLedger x = new ScriptLedger(0);
            submit("lock " + lock, x, new Deal().input(0, 0).gift(lock, 0, 480, 0, 0).fee(20).signers(1), 0);
            DUE.same("lock", x.about(2, 3), lock);
        }
    }

    /** "or an amount is not 0 .. 1000000". */
    private static void amounts() {
        for (int amount : NO_AMOUNTS) {
            DUE.no("coin " + amount, new ScriptLedger(0).give(0, 0, amount, 0, 0));
            DUE.no("first " + amount, new ScriptLedger(0).give(0, 0, 0, amount, 0));
            DUE.no("second " + amount, new ScriptLedger(0).give(0, 0, 0, 0, amount));
        }
        for (int amount : new int[] {0, 1, 999999, 1000000}) {
            DUE.yes("coin " + amount, new ScriptLedger(0).give(0, 0, amount, 0, 0));
            DUE.yes("first " + amount, new ScriptLedger(0).give(0, 0, 0, amount, 0));
            DUE.yes("second " + amount, new ScriptLedger(0).give(0, 0, 0, 0, amount));
        }
        DUE.yes("the most of all", new ScriptLedger(0).give(9, MOST, 1000000, 1000000, 1000000));
    }

    /** What is given is what is there afterwards; the datum is any int. */
    private static void whatIsGiven() {
        for (int datum : new int[] {LEAST, -1, 0, 1, MOST}) {
            ScriptLedger x = new ScriptLedger(0);
            Program.define(x, Program.script(Program.yes()));
            Program.define(x, Program.script(Program.yes()));
            Deal deal = new Deal().input(0, 0).gift(7, datum, 479, 1000000, 3).gift(1, 5, 1, 0, 999997);
            deal.mint(1, 1000000, 0).mint(2, 1000000, 0);
            submit("given", x, deal.fee(20).signers(3).budget(40).guarantee(1), 0);
            int[][] outputs = {{479, 1000000, 3, 7, datum, 0}, {1, 0, 999997, 1, 5, 0}};
            for (int i = 0; i < 2; i++) {
                for (int what = 0; what < 6; what++) {
                    DUE.same("about(" + (2 + i) + ", " + what + ")", x.about(2 + i, what), outputs[i][what]);
                }
            }
        }
    }

    /** "False when asset is not 1 or 2". */
    private static void assetsToMint() {
        for (int asset : new int[] {-1, 0, 3, MOST, LEAST}) {
            DUE.no("mint of asset " + asset, new ScriptLedger(0).mint(asset, 1, 0));
        }
        DUE.yes("mint of asset 1", new ScriptLedger(0).mint(1, 1, 0));
        DUE.yes("mint of asset 2", new ScriptLedger(0).mint(2, 1, 0));
    }

    /** "or amount not -1000000 .. 1000000". */
    private static void amountsToMint() {
        for (int asset = 1; asset <= 2; asset++) {
            for (int amount : new int[] {-1000001, 1000001, MOST, LEAST}) {
                DUE.no("mint of " + amount, new ScriptLedger(0).mint(asset, amount, 0));
            }
            for (int amount : new int[] {-1000000, -999999, -1, 0, 1, 999999, 1000000}) {
                DUE.yes("mint of " + amount, new ScriptLedger(0).mint(asset, amount, 0));
            }
            ScriptLedger x = new ScriptLedger(0);
            Program.define(x, Program.script(Program.yes()));
            Program.define(x, Program.script(Program.yes()));
            int first = asset == 1 ? 1000000 : 0;
            Deal most = new Deal().input(0, 0).mint(asset, 1000000, 0).gift(0, 0, 480, first, 1000000 - first);
            submit("the most is minted", x, most.fee(20).signers(3).budget(20).guarantee(1), 0);
            DUE.same("total", x.total(asset), 1000000);
            Deal least = new Deal().input(2, 0).mint(asset, -1000000, 0).coin(460);
            submit("as much is taken away", x, least.fee(20).signers(3).budget(20).guarantee(1), 0);
            DUE.same("total", x.total(asset), 0);
        }
    }

    /** "in place of what was said before": the policy wants the amount as redeemer, so both are seen. */
    private static void mintInPlace() {
        for (int asset = 1; asset <= 2; asset++) {
            ScriptLedger x = new ScriptLedger(0);
            int[] same = Program.script(Program.builtin(Program.EQUAL, Program.variable(2), Program.variable(1)));
            Program.define(x, same);
            Program.define(x, same);
            DUE.yes("said", x.mint(asset, 9, 9));
            DUE.yes("the same with another redeemer", x.mint(asset, 9, 8));
            DUE.no("refused", x.mint(asset, 1000001, 3));
            Deal deal = new Deal().input(0, 0).mint(asset, 6, 6);
            deal.gift(0, 0, 480, asset == 1 ? 6 : 0, asset == 2 ? 6 : 0);
            submit("the latest holds", x, deal.fee(20).signers(3).budget(20).guarantee(1), 0);
            DUE.same("total", x.total(asset), 6);
            DUE.yes("some", x.mint(asset, 5, 5));
            DUE.yes("none", x.mint(asset, 0, 5));
            submit("none is minted", x, new Deal().input(1, 0).coin(480).fee(20).signers(2), 0);
            DUE.yes("of the other one", x.mint(3 - asset, 4, 4));
            Deal both = new Deal().input(2, 0).mint(asset, 1, 1);
            both.gift(0, 0, 460, asset == 1 ? 7 : 4, asset == 2 ? 7 : 4);
            submit("both hold", x, both.fee(20).signers(1).budget(20).guarantee(3), 0);
        }
    }

    /** "False when fee is not 0 .. 1000000". */
    private static void fees() {
        for (int fee : NO_AMOUNTS) {
            DUE.no("fee " + fee, new ScriptLedger(0).terms(fee, 0, 40, 0, 0));
        }
        for (int fee : new int[] {0, 1, 999999, 1000000}) {
            DUE.yes("fee " + fee, new ScriptLedger(0).terms(fee, 0, 40, 0, 0));
        }
    }

    /** "signers not 0 .. 15". */
    private static void signers() {
        for (int signers : new int[] {-1, 16, 17, 32, MOST, LEAST}) {
            DUE.no("signers " + signers, new ScriptLedger(0).terms(0, 0, 40, signers, 0));
        }
        for (int signers = 0; signers <= 15; signers++) {
            DUE.yes("signers " + signers, new ScriptLedger(0).terms(0, 0, 40, signers, 0));
        }
    }

    /** "or budget not 0 .. 99". */
    private static void budgets() {
        for (int budget : new int[] {-1, 100, MOST, LEAST}) {
            DUE.no("budget " + budget, new ScriptLedger(0).terms(0, 0, 40, 0, budget));
        }
        for (int budget : new int[] {0, 1, 98, 99}) {
            DUE.yes("budget " + budget, new ScriptLedger(0).terms(0, 0, 40, 0, budget));
        }
    }

    /** No interval is refused: promise 10 names no limit of it. */
    private static void anyInterval() {
        int[] ends = {LEAST, -1, 0, 1, 40, 41, MOST};
        for (int from : ends) {
            for (int to : ends) {
                DUE.yes("from " + from + " to " + to, new ScriptLedger(0).terms(1000000, from, to, 15, 99));
            }
        }
    }

    private static void termsInPlace() {
        ScriptLedger x = new ScriptLedger(0);
        x.spend(0, 0);
        x.give(2, 0, 490, 0, 0);
        DUE.yes("terms", x.terms(20, 5, 5, 2, 99));
        DUE.yes("others in their place", x.terms(10, 0, 0, 1, 24));
        DUE.no("refused for the fee", x.terms(1000001, 1, 1, 2, 0));
        DUE.no("refused for the signers", x.terms(11, 1, 1, 16, 0));
        DUE.no("refused for the budget", x.terms(11, 1, 1, 2, 100));
        DUE.same("the latest that were not refused hold", x.submit(), 0);
        DUE.same("pot", x.pot(), 10);
    }

    /** "False when output is below 0 (whether there is such an output is not looked at)". */
    private static void guarantees() {
        for (int output : new int[] {-1, -2, LEAST}) {
            DUE.no("guarantee of " + output, new ScriptLedger(0).guarantee(output));
        }
        for (int output : new int[] {0, 1, 2, 47, 48, MOST}) {
            DUE.yes("guarantee of " + output, new ScriptLedger(0).guarantee(output));
        }
        for (int output = 0; output <= 2; output++) {
            ScriptLedger x = new ScriptLedger(0);
            Program.define(x, Program.script(Program.yes()));
            Deal deal = new Deal().input(1, 0).mint(1, 5, 0).gift(0, 0, 480, 5, 0).fee(20).signers(3).budget(99);
            submit("guarantee of " + output, x, deal.guarantee(output), output == 0 ? 0 : 9);
        }
    }

    private static void guaranteeInPlace() {
        ScriptLedger x = new ScriptLedger(0);
        Program.define(x, Program.script(Program.yes()));
        DUE.yes("one that is not there", x.guarantee(9));
        DUE.yes("another one in its place", x.guarantee(1));
        DUE.no("a refused one", x.guarantee(-1));
        Deal deal = new Deal().input(0, 0).mint(1, 5, 0).gift(0, 0, 480, 5, 0).fee(20).signers(3).budget(99);
        submit("the latest that was not refused holds", x, deal, 0);
        DUE.same("the guarantee is not spent", x.about(1, 5), 0);
    }
}
