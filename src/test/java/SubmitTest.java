/** Promise 12: submit, and what "Terms" says of judging and of the context. */
public final class SubmitTest {
    private static final Due DUE = new Due();

    public static void main(String[] args) {
        orderOfFaults();
        inputs();
        intervals();
        fees();
        balances();
        signatures();
        definitions();
        guarantees();
        room();
        emptyAfterwards();
        orderOfScripts();
        budgetIsShared();
        seized();
        contexts();
        DUE.end();
    }

    /**
     * Script 0 agrees, script 1 fails. Outputs 0 and 1 are spent; 300 coins each are locked by script 0
     * in output 2, by script 1 in 3, by script 5 in 4; then come 600 of key 1, 40 of key 0, 60 of script 0.
     */
    private static ScriptLedger furnished() {
        ScriptLedger x = new ScriptLedger(500);
        Program.define(x, Program.script(Program.yes()));
        Program.define(x, Program.script(Program.error()));
        x.spend(0, 0);
        x.give(4, 30, 300, 0, 0);
        x.give(5, 31, 300, 0, 0);
        x.give(9, 32, 300, 0, 0);
        x.terms(100, 0, 40, 1, 0);
        DUE.same("furnishing", x.submit(), 0);
        x.spend(1, 0);
        x.give(1, 0, 600, 0, 0);
        x.give(0, 0, 40, 0, 0);
        x.give(4, 0, 60, 0, 0);
        x.terms(300, 0, 40, 2, 0);
        DUE.same("furnishing", x.submit(), 0);
        return x;
    }

    private static int submit(ScriptLedger x, int fee, int signers, int budget) {
        x.terms(fee, 0, 40, signers, budget);
        return x.submit();
    }

    /** Each transaction has a fault, and the ones that come later in the order too. */
    private static void orderOfFaults() {
        ScriptLedger x = furnished();
        x.give(0, 0, 0, 1, 0);
        x.mint(2, 1, 0);
        x.terms(0, 1, 0, 0, 99);
        DUE.same("no input before all others", x.submit(), 2);
        x.spend(0, 0);
        x.terms(0, 1, 0, 0, 99);
        DUE.same("spent before the interval", x.submit(), 3);
        x.spend(5, 0);
        x.terms(0, 1, 40, 0, 99);
        DUE.same("interval before the fee", x.submit(), 4);
        x.spend(5, 0);
        DUE.same("fee before the balance", submit(x, 17, 0, 99), 5);
        x.spend(5, 0);
        x.spend(4, 0);
        DUE.same("balance before signers", submit(x, 19, 0, 99), 6);
        x.spend(5, 0);
        x.spend(4, 0);
        DUE.same("signers before definitions", submit(x, 900, 0, 99), 7);
        x.spend(4, 0);
        DUE.same("definitions before the guarantee", submit(x, 300, 0, 99), 8);
        x.spend(2, 0);
        DUE.same("guarantee before the scripts", submit(x, 300, 15, 99), 9);
        DUE.same("no script was run", x.result(0), -1);
    }

    private static void inputs() {
        ScriptLedger x = furnished();
        x.spend(0, 0);
        DUE.same("spent", submit(x, 500, 15, 0), 3);
        x.spend(8, 0);
        DUE.same("one behind the last", submit(x, 500, 15, 0), 3);
        x.spend(5, 0);
        x.spend(1, 0);
        DUE.same("the second is spent", submit(x, 600, 15, 0), 3);
        x.spend(5, 0);
        x.spend(6, 0);
        x.spend(Integer.MAX_VALUE, 0);
        DUE.same("the third is not there", submit(x, 640, 15, 0), 3);
        x.spend(6, 0);
        x.spend(5, 0);
        DUE.same("both are there", submit(x, 640, 3, 0), 0);
        DUE.same("spent now", x.about(5, 5) + x.about(6, 5), 2);
        x.spend(5, 0);
        DUE.same("spent just now", submit(x, 600, 15, 0), 3);
    }

    private static void intervals() {
        int[][] fromToAnswer = {{0, 0, 4}, {0, 1, 4}, {2, 2, 0}, {0, 2, 0}, {2, 40, 0}, {3, 40, 4}, {3, 1, 4}, {2, 1, 4},
            {Integer.MIN_VALUE, Integer.MAX_VALUE, 0}, {-5, -3, 4}, {41, 50, 4}};
        for (int[] row : fromToAnswer) {
            ScriptLedger x = new ScriptLedger(0);
            x.block();
            x.block();
            x.spend(0, 0);
            x.terms(500, row[0], row[1], 1, 0);
            DUE.same("height 2 in " + row[0] + " .. " + row[1], x.submit(), row[2]);
        }
    }

    private static void fees() {
        for (int ins = 1; ins <= 2; ins++) {
            for (int outs = 0; outs <= 3; outs++) {
                for (int budget : new int[] {0, 7, 8, 15, 16, 99}) {
                    int least = 5 + ins + outs + budget / 8;
                    DUE.same("a coin too little", paid(ins, outs, budget, least - 1), 5);
                    DUE.same("the least fee", paid(ins, outs, budget, least), outs == 0 ? 6 : 0);
                }
            }
        }
        DUE.same("all as a fee", paid(1, 0, 0, 500), 0);
    }

    private static int paid(int ins, int outs, int budget, int fee) {
        ScriptLedger x = new ScriptLedger(0);
        for (int i = 0; i < ins; i++) {
            x.spend(i, 0);
        }
        for (int i = 0; i < outs; i++) {
            x.give(0, 0, i == 0 ? 500 * ins - fee : 0, 0, 0);
        }
        int answer = submit(x, fee, 3, budget);
        DUE.same("pot", x.pot(), answer == 0 ? fee : 0);
        return answer;
    }

    private static void balances() {
        int[][] coinFirstSecondMintedAnswer = {
            {479, 0, 0, 0, 0, 6}, {481, 0, 0, 0, 0, 6}, {480, 1, 0, 0, 0, 6}, {480, 0, 1, 0, 0, 6},
            {480, 0, 0, 1, 0, 6}, {480, 0, 0, 0, 1, 6}, {480, 0, 0, -1, 0, 6}, {480, 0, 0, 0, -1, 6},
            {480, 5, 7, 7, 5, 6}, {480, 5, 0, 5, 0, 0}, {480, 0, 0, 0, 0, 0}, {480, 1000000, 0, 1000000, 0, 0},
            {480, 0, 7, 0, 7, 0}, {480, 5, 7, 5, 7, 0}};
        for (int[] row : coinFirstSecondMintedAnswer) {
            ScriptLedger x = new ScriptLedger(0);
            Program.define(x, Program.script(Program.yes()));
            Program.define(x, Program.script(Program.yes()));
            x.spend(0, 0);
            x.give(0, 0, row[0], row[1], row[2]);
            x.mint(1, row[3], 0);
            x.mint(2, row[4], 0);
            x.guarantee(1);
            DUE.same("balance of " + java.util.Arrays.toString(row), submit(x, 20, 3, 99), row[5]);
            DUE.same("total of coin", x.total(0) + x.pot(), 1000);
            DUE.same("total of 1", x.total(1), row[5] == 0 ? row[3] : 0);
            DUE.same("total of 2", x.total(2), row[5] == 0 ? row[4] : 0);
        }
        tokensGoOn();
    }

    private static void tokensGoOn() {
        ScriptLedger x = new ScriptLedger(0);
        Program.define(x, Program.script(Program.yes()));
        x.spend(0, 0);
        x.give(0, 0, 240, 30, 0);
        x.give(0, 0, 240, 10, 0);
        x.mint(1, 40, 0);
        x.guarantee(1);
        DUE.same("minted into two", submit(x, 20, 3, 64), 0);
        x.spend(2, 0);
        x.spend(3, 0);
        x.give(1, 0, 470, 39, 0);
        DUE.same("one is lost", submit(x, 10, 1, 0), 6);
        x.spend(2, 0);
        x.spend(3, 0);
        x.give(1, 0, 470, 40, 0);
        DUE.same("a token needs no policy when none is minted", submit(x, 10, 1, 0), 0);
        DUE.same("amount", x.about(4, 1), 40);
        x.spend(4, 0);
        x.give(1, 0, 450, 0, 0);
        x.mint(1, -40, 0);
        x.guarantee(1);
        DUE.same("all is taken away", submit(x, 20, 2, 64), 0);
        DUE.same("total", x.total(1), 0);
    }

    private static void signatures() {
        for (int signers = 0; signers <= 15; signers++) {
            ScriptLedger x = new ScriptLedger(0);
            x.spend(0, 0);
            x.spend(1, 0);
            DUE.same("keys 0 and 1 by " + signers, submit(x, 1000, signers, 0), (signers & 3) == 3 ? 0 : 7);
            x = new ScriptLedger(0);
            x.spend(0, 0);
            x.give(3, 0, 490, 0, 0);
            x.terms(10, 0, 40, 1, 0);
            x.submit();
            x.spend(2, 0);
            DUE.same("key 3 by " + signers, submit(x, 490, signers, 0), signers >= 8 ? 0 : 7);
        }
    }

    private static void definitions() {
        ScriptLedger x = furnished();
        x.spend(4, 0);
        x.guarantee(5);
        DUE.same("script 5 is not defined", submit(x, 300, 15, 99), 8);
        x = new ScriptLedger(0);
        x.spend(0, 0);
        x.give(4, 0, 100, 0, 0);
        x.give(0, 0, 380, 0, 0);
        DUE.same("locked by script 0", submit(x, 20, 1, 0), 0);
        x.spend(2, 0);
        x.guarantee(1);
        DUE.same("script 0 is not defined", submit(x, 100, 2, 0), 8);
        x = new ScriptLedger(0);
        x.spend(0, 0);
        x.give(0, 0, 480, 1, 0);
        x.mint(1, 1, 0);
        x.guarantee(1);
        DUE.same("the policy of 1 is not defined", submit(x, 20, 15, 99), 8);
        Program.define(x, Program.script(Program.yes()));
        x.spend(0, 0);
        x.give(0, 0, 480, 0, 1);
        x.mint(2, 1, 0);
        x.guarantee(1);
        DUE.same("the policy of 2 is not defined", submit(x, 20, 15, 99), 8);
        x.spend(0, 0);
        x.give(0, 0, 480, 1, 0);
        x.mint(1, 1, 0);
        x.guarantee(1);
        DUE.same("the policy of 1 is defined", submit(x, 20, 15, 99), 0);
    }

    private static int guaranteed(ScriptLedger x, int guarantee, int fee, int signers) {
        x.spend(7, 0);
        x.give(0, 0, 60 - fee, 0, 0);
        x.guarantee(guarantee);
        return submit(x, fee, signers, 64);
    }

    private static void guarantees() {
        DUE.same("not there", guaranteed(furnished(), 8, 20, 15), 9);
        DUE.same("far off", guaranteed(furnished(), Integer.MAX_VALUE, 20, 15), 9);
        DUE.same("spent", guaranteed(furnished(), 0, 20, 15), 9);
        DUE.same("one of the inputs", guaranteed(furnished(), 7, 20, 15), 9);
        DUE.same("locked by a script", guaranteed(furnished(), 2, 20, 15), 9);
        DUE.same("its key has not signed", guaranteed(furnished(), 5, 20, 13), 9);
        DUE.same("its key has signed", guaranteed(furnished(), 5, 20, 2), 0);
        DUE.same("twice the fee", guaranteed(furnished(), 6, 20, 1), 0);
        DUE.same("less than twice the fee", guaranteed(furnished(), 6, 21, 1), 9);
        ScriptLedger x = furnished();
        x.spend(5, 0);
        x.spend(7, 0);
        x.give(0, 0, 640, 0, 0);
        x.guarantee(5);
        DUE.same("an input that is locked by a key", submit(x, 20, 15, 64), 9);
        x.spend(5, 0);
        x.give(0, 0, 590, 0, 0);
        x.guarantee(0);
        DUE.same("a bad one where no script is needed", submit(x, 10, 15, 64), 5);
        x.spend(5, 0);
        x.give(0, 0, 590, 0, 0);
        x.guarantee(0);
        DUE.same("a bad one where no script is needed", submit(x, 10, 15, 0), 0);
        withTokens(1);
        withTokens(2);
    }

    private static void withTokens(int asset) {
        ScriptLedger x = new ScriptLedger(0);
        Program.define(x, Program.script(Program.yes()));
        Program.define(x, Program.script(Program.yes()));
        x.spend(0, 0);
        x.give(0, 0, 240, asset == 1 ? 3 : 0, asset == 2 ? 3 : 0);
        x.give(4, 0, 240, 0, 0);
        x.mint(asset, 3, 0);
        x.guarantee(1);
        DUE.same("minted", submit(x, 20, 3, 64), 0);
        x.spend(3, 0);
        x.give(0, 0, 220, 0, 0);
        x.guarantee(2);
        DUE.same("a guarantee with a token", submit(x, 20, 3, 64), 9);
    }

    private static void room() {
        ScriptLedger x = new ScriptLedger(900);
        Program.define(x, Program.script(Program.error()));
        int coin = 1400;
        int latest = 0;
        for (int i = 0; i < 15; i++) {
            coin -= 9;
            x.spend(latest, 0);
            x.give(0, 0, coin, 0, 0);
            x.give(0, 0, 0, 0, 0);
            x.give(0, 0, 0, 0, 0);
            DUE.same("three more", submit(x, 9, 1, 0), 0);
            latest = x.outputs() - 3;
        }
        DUE.same("outputs", x.outputs(), 47);
        x.spend(latest, 0);
        x.give(0, 0, coin - 20, 0, 0);
        x.give(0, 0, 0, 0, 0);
        DUE.same("two more", submit(x, 20, 1, 0), 10);
        x.spend(latest, 0);
        x.give(0, 0, coin - 20, 1, 0);
        x.give(0, 0, 0, 0, 0);
        x.mint(1, 1, 0);
        DUE.same("the guarantee comes first", submit(x, 20, 3, 0), 9);
        x.spend(latest, 0);
        x.give(0, 0, coin - 20, 1, 0);
        x.give(0, 0, 0, 0, 0);
        x.mint(1, 1, 0);
        x.guarantee(1);
        DUE.same("no script is run", submit(x, 20, 3, 0), 10);
        DUE.same("no script is run", x.result(0), -1);
        DUE.same("outputs", x.outputs(), 47);
        x.spend(latest, 0);
        x.give(2, 8, coin - 20, 0, 0);
        DUE.same("one more", submit(x, 20, 1, 0), 0);
        DUE.same("outputs", x.outputs(), 48);
        DUE.same("the last one", x.about(47, 4), 8);
        x.spend(1, 0);
        x.give(0, 0, 1380, 0, 0);
        DUE.same("a 49th", submit(x, 20, 2, 0), 10);
        x.spend(1, 0);
        DUE.same("none", submit(x, 1400, 2, 0), 0);
    }

    private static void emptyAfterwards() {
        for (int fault = 0; fault < 2; fault++) {
            ScriptLedger x = furnished();
            x.spend(5, 0);
            x.give(0, 0, 560, 0, 0);
            x.mint(1, 0, 7);
            x.guarantee(6);
            DUE.same("submit", submit(x, 40 + fault, 2, 0), fault == 0 ? 0 : 6);
            DUE.same("nothing is left", x.submit(), 2);
            x.spend(2, 0);
            DUE.same("the fee is 0", x.submit(), 5);
            x.spend(2, 0);
            DUE.same("no guarantee is left", submit(x, 300, 15, 0), 9);
        }
        ScriptLedger x = furnished();
        int pot = x.pot();
        x.spend(3, 0);
        x.give(0, 0, 280, 0, 0);
        x.guarantee(6);
        DUE.same("a script fails", submit(x, 20, 15, 64), 1);
        DUE.same("nothing is left", x.submit(), 2);
        DUE.same("pot", x.pot(), pot + 40);
    }

    /** Scripts that differ in their steps tell by promise 5 which one was run last. */
    private static void orderOfScripts() {
        ScriptLedger x = new ScriptLedger(0);
        int[] isDatum = Program.builtin(Program.EQUAL, Program.variable(2), Program.variable(1));
        Program.define(x, Program.script(isDatum));
        Program.define(x, Program.script(Program.force(Program.delay(isDatum))));
        x.spend(0, 0);
        x.give(4, 7, 200, 0, 0);
        x.give(5, 8, 200, 0, 0);
        x.terms(100, 0, 40, 1, 0);
        DUE.same("locked", x.submit(), 0);
        DUE.same("the second input disagrees", bothInputs(x, 3, 2, 8, 6), 1);
        DUE.same("its script", x.result(1), 9);
        x.rollback(0);
        lockBoth(x);
        DUE.same("the first input disagrees", bothInputs(x, 3, 2, 9, 6), 1);
        DUE.same("its script alone", x.result(1), 11);
        x.rollback(0);
        lockBoth(x);
        DUE.same("both agree", bothInputs(x, 3, 2, 8, 7), 0);
        DUE.same("the last script", x.result(1), 9);
        x.rollback(0);
        lockBoth(x);
        DUE.same("the policies come behind", minted(x, 7, 20, 21), 0);
        DUE.same("that of 2 is the last", x.result(1), 11);
        x.rollback(0);
        lockBoth(x);
        DUE.same("the policy of 1 is the first", minted(x, 7, 19, 20), 1);
        DUE.same("it is the last run", x.result(1), 9);
        x.rollback(0);
        lockBoth(x);
        DUE.same("the policy of 2 disagrees", minted(x, 7, 20, 20), 1);
        DUE.same("it is the last run", x.result(1), 11);
    }

    private static void lockBoth(ScriptLedger x) {
        x.spend(0, 0);
        x.give(4, 7, 200, 0, 0);
        x.give(5, 8, 200, 0, 0);
        DUE.same("locked", submit(x, 100, 1, 0), 0);
    }

    private static int bothInputs(ScriptLedger x, int one, int other, int redeemer, int otherRedeemer) {
        x.spend(one, redeemer);
        x.spend(other, otherRedeemer);
        x.give(0, 0, 380, 0, 0);
        x.guarantee(1);
        return submit(x, 20, 2, 64);
    }

    private static int minted(ScriptLedger x, int redeemer, int first, int second) {
        x.spend(2, redeemer);
        x.mint(2, 21, second);
        x.mint(1, 20, first);
        x.give(0, 0, 180, 20, 21);
        x.guarantee(1);
        return submit(x, 20, 2, 64);
    }

    /** Two runs of 9 steps each. */
    private static void budgetIsShared() {
        int[] budgets = {0, 8, 9, 17, 18, 19};
        int[] lastSteps = {0, 8, 0, 8, 9, 9};
        for (int i = 0; i < budgets.length; i++) {
            ScriptLedger x = new ScriptLedger(0);
            Program.define(x, Program.script(Program.yes()));
            x.spend(0, 0);
            x.give(4, 0, 200, 0, 0);
            x.give(4, 0, 200, 0, 0);
            DUE.same("locked", submit(x, 100, 1, 0), 0);
            x.spend(2, 0);
            x.spend(3, 0);
            x.guarantee(1);
            x.terms(400, 0, 40, 2, budgets[i]);
            DUE.same("too little coin for this fee", x.submit(), 9);
            x.spend(2, 0);
            x.spend(3, 0);
            x.give(0, 0, 380, 0, 0);
            x.guarantee(1);
            DUE.same("budget " + budgets[i], submit(x, 20, 2, budgets[i]), budgets[i] < 18 ? 1 : 0);
            DUE.same("outcome", x.result(0), budgets[i] < 18 ? 3 : 0);
            DUE.same("steps", x.result(1), lastSteps[i]);
        }
        threeShare();
    }

    private static void threeShare() {
        for (int budget = 26; budget <= 27; budget++) {
            ScriptLedger x = new ScriptLedger(0);
            Program.define(x, Program.script(Program.yes()));
            Program.define(x, Program.script(Program.yes()));
            x.spend(0, 0);
            x.give(4, 0, 400, 0, 0);
            DUE.same("locked", submit(x, 100, 1, 0), 0);
            x.spend(2, 0);
            x.mint(1, 1, 0);
            x.mint(2, 1, 0);
            x.give(0, 0, 380, 1, 1);
            x.guarantee(1);
            DUE.same("an input and two policies in " + budget, submit(x, 20, 2, budget), budget == 27 ? 0 : 1);
            DUE.same("steps of the last", x.result(1), budget == 27 ? 9 : 8);
        }
    }

    private static void seized() {
        for (int[] body : new int[][] {Program.no(), Program.integer(1), Program.error(), Program.endless()}) {
            ScriptLedger x = new ScriptLedger(0);
            Program.define(x, Program.script(body));
            x.spend(0, 0);
            x.mint(1, 5, 0);
            x.give(0, 0, 480, 5, 0);
            x.guarantee(1);
            DUE.same("a script that does not answer true", submit(x, 20, 3, 99), 1);
            DUE.same("the guarantee is spent", x.about(1, 5), 1);
            DUE.same("its coin is in the pot", x.pot(), 500);
            DUE.same("the input is not spent", x.about(0, 5), 0);
            DUE.same("no output is made", x.outputs(), 2);
            DUE.same("nothing is minted", x.total(1), 0);
            DUE.same("coin", x.total(0), 500);
        }
    }

    private static void contexts() {
        int[] context = {0, -9, 77, 23, 11, 2, 3, 40, -50, 700};
        int[] forAssets = {9, 10};
        for (int place = 0; place < context.length; place++) {
            seesInContext(place, context[place], 0);
        }
        seesInContext(0, 1, 1);
        for (int asset = 1; asset <= 2; asset++) {
            policySeesInContext(asset, 0, forAssets[asset - 1]);
            policySeesInContext(asset, 9, 700);
        }
        dueLength();
    }

    /** The script that locks an input agrees when the context has its redeemer at that place. */
    private static void seesInContext(int place, int number, int inputPlace) {
        for (int off = 0; off <= 1; off++) {
            ScriptLedger x = withTokenTwo();
            int[] body = Program.builtin(Program.EQUAL, Program.variable(1), Program.inContext(place));
            DUE.same("define", Program.define(x, Program.script(body)), 2);
            if (inputPlace == 1) {
                x.spend(3, 0);
                x.spend(4, number + off);
            } else {
                x.spend(4, number + off);
                x.spend(3, 0);
            }
            spendTheRest(x);
            DUE.same("context " + place + " is " + number, x.submit(), off);
        }
    }

    private static void policySeesInContext(int asset, int place, int number) {
        for (int off = 0; off <= 1; off++) {
            ScriptLedger x = new ScriptLedger(200);
            int[] body = Program.builtin(Program.EQUAL, Program.variable(1), Program.inContext(place));
            int[] other = Program.script(Program.yes());
            Program.define(x, asset == 1 ? Program.script(body) : other);
            Program.define(x, asset == 2 ? Program.script(body) : other);
            x.spend(0, 0);
            x.mint(asset, 5, number + off);
            x.mint(3 - asset, 6, 0);
            x.give(0, 0, 676, asset == 1 ? 5 : 6, asset == 2 ? 5 : 6);
            x.guarantee(1);
            DUE.same("context " + place + " of asset " + asset, submit(x, 24, 3, 99), off);
        }
    }

    /** Output 3 has token 2 and 400 coins, output 4 is locked by script 2 and has 300, 1 is for guarantees. */
    private static ScriptLedger withTokenTwo() {
        ScriptLedger x = new ScriptLedger(220);
        Program.define(x, Program.script(Program.yes()));
        Program.define(x, Program.script(Program.yes()));
        x.spend(0, 0);
        x.give(0, 0, 0, 0, 0);
        x.give(0, 0, 400, 0, 50);
        x.give(6, 0, 300, 0, 0);
        x.mint(2, 50, 0);
        x.guarantee(1);
        DUE.same("furnishing", submit(x, 20, 3, 64), 0);
        return x;
    }

    private static void spendTheRest(ScriptLedger x) {
        x.mint(1, 40, 0);
        x.mint(2, -50, 0);
        x.give(0, 0, 600, 40, 0);
        x.give(0, 0, 77, 0, 0);
        x.give(0, 0, 0, 0, 0);
        x.guarantee(1);
        x.terms(23, -9, 77, 11, 99);
    }

    private static void dueLength() {
        ScriptLedger x = withTokenTwo();
        Program.define(x, Program.script(Program.variable(0)));
        x.spend(4, 0);
        x.spend(3, 0);
        spendTheRest(x);
        DUE.same("a list is not true", x.submit(), 1);
        DUE.same("a list", x.result(2), 2);
        DUE.same("of ten", x.result(3), 10);
    }
}
