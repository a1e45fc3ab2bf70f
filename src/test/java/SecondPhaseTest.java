import java.util.ArrayList;
import java.util.Arrays;
import java.util.List;

/** Promise 12: submit, and what "Terms" says of the scripts that are run, of 0 and 1, and of the context. */
public final class SecondPhaseTest {
    private static final Due DUE = new Due();
    private static final int MOST = Integer.MAX_VALUE;
    private static final int LEAST = Integer.MIN_VALUE;

    private static final int[] ARGUMENTS_ARE_SAME = Program.script(
        Program.builtin(Program.EQUAL, Program.variable(2), Program.variable(1)));
    /** The same with two steps more, so that promise 5 tells which of the two was run. */
    private static final int[] SAME_BUT_LONGER = Program.script(Program.force(Program.delay(
        Program.builtin(Program.EQUAL, Program.variable(2), Program.variable(1)))));
    private static final int STEPS = 9;
    private static final int LONGER_STEPS = 11;

    public static void main(String[] args) {
        inputsInTheirOrder();
        policiesBehindInputs();
        datumAndRedeemer();
        amountAndRedeemer();
        budgetOfOne();
        budgetOfTwo();
        budgetOfThree();
        budgetOfNone();
        accepted();
        seizedForEachOutcome();
        seizedForEachScript();
        placesInContext();
        edgesOfContext();
        sizesInContext();
        lengthOfContext();
        noContextInRun();
        DUE.end();
    }

    private static void submit(String name, ScriptLedger x, Deal deal, int answer) {
        DUE.same(name, deal.submit(DUE, x), answer);
    }

    /** Output 2 is locked by script 0, 3 by script 1, 200 coins and the datum 7 and 8; 1 is for guarantees. */
    private static ScriptLedger locked() {
        ScriptLedger x = new ScriptLedger(0);
        Program.define(x, ARGUMENTS_ARE_SAME);
        Program.define(x, SAME_BUT_LONGER);
        Deal deal = new Deal().input(0, 0).gift(4, 7, 200, 0, 0).gift(5, 8, 200, 0, 0).coin(80);
        submit("locked", x, deal.fee(20).signers(1), 0);
        return x;
    }

    private static void lastRun(ScriptLedger x, String name, int outcome, int steps) {
        DUE.same(name + ": outcome of the last run", x.result(0), outcome);
        DUE.same(name + ": steps of the last run", x.result(1), steps);
    }

    /** "by inputs, in their order"; "With the first whose outcome is not 0, nothing more is run". */
    private static void inputsInTheirOrder() {
        int[][] firstSecondAnswerSteps = {
            {7, 8, 0, LONGER_STEPS}, {7, 9, 1, LONGER_STEPS}, {6, 8, 1, STEPS}, {6, 9, 1, STEPS}};
        for (int[] row : firstSecondAnswerSteps) {
            ScriptLedger x = locked();
            Deal deal = new Deal().input(2, row[0]).input(3, row[1]).coin(380);
            submit(Arrays.toString(row), x, deal.fee(20).signers(2).budget(64).guarantee(1), row[2]);
            lastRun(x, Arrays.toString(row), row[2], row[3]);
        }
        int[][] otherOrder = {{8, 7, 0, STEPS}, {8, 6, 1, STEPS}, {9, 7, 1, LONGER_STEPS}, {9, 6, 1, LONGER_STEPS}};
        for (int[] row : otherOrder) {
            ScriptLedger x = locked();
            Deal deal = new Deal().input(3, row[0]).input(2, row[1]).coin(380);
            submit(Arrays.toString(row), x, deal.fee(20).signers(2).budget(64).guarantee(1), row[2]);
            lastRun(x, Arrays.toString(row), row[2], row[3]);
        }
        ScriptLedger x = locked();
        Deal deal = new Deal().input(4, 0).input(3, 8).coin(260);
        submit("a key comes before it", x, deal.fee(20).signers(3).budget(64).guarantee(1), 0);
        lastRun(x, "a key comes before it", 0, LONGER_STEPS);
    }

    /** "then the policies, asset 1 first". */
    private static void policiesBehindInputs() {
        int[][] inputFirstSecondAnswerSteps = {
            {8, 20, 21, 0, LONGER_STEPS}, {8, 20, 22, 1, LONGER_STEPS}, {8, 19, 21, 1, STEPS}, {8, 19, 22, 1, STEPS},
            {9, 19, 22, 1, LONGER_STEPS}, {9, 20, 21, 1, LONGER_STEPS}};
        for (int[] row : inputFirstSecondAnswerSteps) {
            ScriptLedger x = locked();
            Deal deal = new Deal().input(3, row[0]).mint(1, 20, row[1]).mint(2, 21, row[2]).gift(0, 0, 180, 20, 21);
            submit(Arrays.toString(row), x, deal.fee(20).signers(2).budget(64).guarantee(1), row[3]);
            lastRun(x, Arrays.toString(row), row[3], row[4]);
        }
    }

    /** "with the datum of the input and its redeemer": both are ints. */
    private static void datumAndRedeemer() {
        for (int datum : new int[] {LEAST, LEAST + 1, -1, 0, 1, 128, MOST}) {
            for (int off = -1; off <= 1; off++) {
                ScriptLedger x = new ScriptLedger(0);
                Program.define(x, ARGUMENTS_ARE_SAME);
                submit("made", x, new Deal().input(0, 0).gift(4, datum, 480, 0, 0).fee(20).signers(1), 0);
                Deal deal = new Deal().input(2, datum + off).coin(460).fee(20).signers(2).budget(20).guarantee(1);
                submit("datum " + datum + ", redeemer " + (datum + off), x, deal, off == 0 ? 0 : 1);
            }
        }
        ScriptLedger x = new ScriptLedger(0);
        Program.define(x, Program.script(Program.builtin(Program.SUBTRACT, Program.variable(2), Program.variable(1))));
        submit("made", x, new Deal().input(0, 0).gift(4, LEAST, 480, 0, 0).fee(20).signers(1), 0);
        submit("minus", x, new Deal().input(2, 1).coin(460).fee(20).signers(2).budget(20).guarantee(1), 1);
        DUE.same("the datum is the first value, and it wraps round", x.result(3), MOST);
    }

    /** "with the amount minted and its redeemer". */
    private static void amountAndRedeemer() {
        for (int asset = 1; asset <= 2; asset++) {
            for (int amount : new int[] {1, 5, 1000000, -1, -999999, -1000000}) {
                for (int off = -1; off <= 1; off++) {
                    ScriptLedger x = withTokens(asset);
                    int kept = 1000000 + Math.min(amount, 0);
                    int more = Math.max(amount, 0);
                    Deal deal = new Deal().input(2, 0).mint(asset, amount, amount + off)
                        .gift(0, 0, 450, asset == 1 ? kept : 0, asset == 2 ? kept : 0)
                        .gift(0, 0, 10, asset == 1 ? more : 0, asset == 2 ? more : 0);
                    deal.fee(20).signers(3).budget(20).guarantee(1);
                    submit("mint of " + amount + ", redeemer " + (amount + off), x, deal, off == 0 ? 0 : 1);
                    DUE.same("total", x.total(asset), off == 0 ? 1000000 + amount : 1000000);
                }
            }
        }
    }

    /** Both policies want the amount as redeemer; output 2 has 480 coins and 1000000 of the token. */
    private static ScriptLedger withTokens(int asset) {
        ScriptLedger x = new ScriptLedger(0);
        Program.define(x, ARGUMENTS_ARE_SAME);
        Program.define(x, ARGUMENTS_ARE_SAME);
        Deal deal = new Deal().input(0, 0).mint(asset, 1000000, 1000000)
            .gift(0, 0, 480, asset == 1 ? 1000000 : 0, asset == 2 ? 1000000 : 0);
        submit("with tokens", x, deal.fee(20).signers(3).budget(9).guarantee(1), 0);
        return x;
    }

    /** "and with what is left of the budget". */
    private static void budgetOfOne() {
        for (int budget = 0; budget <= 20; budget++) {
            ScriptLedger x = locked();
            Deal deal = new Deal().input(2, 7).coin(180).fee(20).signers(2).budget(budget).guarantee(1);
            submit("one within " + budget, x, deal, budget < STEPS ? 1 : 0);
            lastRun(x, "one within " + budget, budget < STEPS ? 3 : 0, Math.min(budget, STEPS));
        }
    }

    private static void budgetOfTwo() {
        for (int budget = 0; budget <= 30; budget++) {
            ScriptLedger x = locked();
            Deal deal = new Deal().input(2, 7).input(3, 8).coin(380);
            boolean isEnough = budget >= STEPS + LONGER_STEPS;
            submit("two within " + budget, x, deal.fee(20).signers(2).budget(budget).guarantee(1), isEnough ? 0 : 1);
            int steps = budget < STEPS ? budget : Math.min(budget - STEPS, LONGER_STEPS);
            lastRun(x, "two within " + budget, isEnough ? 0 : 3, steps);
        }
    }

    private static void budgetOfThree() {
        int all = LONGER_STEPS + STEPS + LONGER_STEPS;
        for (int budget = 0; budget <= 40; budget++) {
            ScriptLedger x = locked();
            Deal deal = new Deal().input(3, 8).mint(1, 1, 1).mint(2, 2, 2).gift(0, 0, 180, 1, 2);
            boolean isEnough = budget >= all;
            submit("three within " + budget, x, deal.fee(20).signers(2).budget(budget).guarantee(1), isEnough ? 0 : 1);
            int left = budget < LONGER_STEPS ? budget : budget - LONGER_STEPS < STEPS ? budget - LONGER_STEPS
                : Math.min(budget - LONGER_STEPS - STEPS, LONGER_STEPS);
            lastRun(x, "three within " + budget, isEnough ? 0 : 3, left);
        }
    }

    /** A script that fails is not out when the steps before it leave just as many as it takes. */
    private static void budgetOfNone() {
        ScriptLedger x = new ScriptLedger(0);
        Program.define(x, Program.error());
        Deal deal = new Deal().input(0, 0).mint(1, 1, 0).gift(0, 0, 480, 1, 0).fee(20).signers(3).guarantee(1);
        submit("no budget", x, deal.budget(0), 1);
        lastRun(x, "no budget", 3, 0);
        x = new ScriptLedger(0);
        Program.define(x, Program.error());
        submit("a step", x, deal.budget(1), 1);
        lastRun(x, "a step", 2, 1);
    }

    /** "Otherwise 0: its inputs are spent, its new outputs are there, and the fee comes to the pot." */
    private static void accepted() {
        ScriptLedger x = locked();
        Deal deal = new Deal().input(2, 7).input(4, 0).mint(1, 6, 6);
        deal.gift(3, -5, 100, 6, 0).gift(9, LEAST, 0, 0, 0).gift(4, MOST, 155, 0, 0);
        submit("accepted", x, deal.fee(25).signers(3).budget(64).guarantee(1), 0);
        List<Integer> answers = new ArrayList<>(List.of(8, 45, 0, 955, 6, 0));
        answers.addAll(List.of(500, 0, 0, 0, 0, 1));
        answers.addAll(List.of(500, 0, 0, 1, 0, 0));
        answers.addAll(List.of(200, 0, 0, 4, 7, 1));
        answers.addAll(List.of(200, 0, 0, 5, 8, 0));
        answers.addAll(List.of(80, 0, 0, 0, 0, 1));
        answers.addAll(List.of(100, 6, 0, 3, -5, 0));
        answers.addAll(List.of(0, 0, 0, 9, LEAST, 0));
        answers.addAll(List.of(155, 0, 0, 4, MOST, 0));
        DUE.same("accepted", Seen.ofLedger(x), answers);
    }

    /** As it was, but for the guarantee, which is spent: all of its coin is in the pot, and the fee is not. */
    private static void onlySeized(String name, ScriptLedger x) {
        List<Integer> answers = new ArrayList<>(List.of(5, 520, 0, 480, 0, 0));
        answers.addAll(List.of(500, 0, 0, 0, 0, 1));
        answers.addAll(List.of(500, 0, 0, 1, 0, 1));
        answers.addAll(List.of(200, 0, 0, 4, 7, 0));
        answers.addAll(List.of(200, 0, 0, 5, 8, 0));
        answers.addAll(List.of(80, 0, 0, 0, 0, 0));
        DUE.same(name, Seen.ofLedger(x), answers);
    }

    /** "1, and of all that it would do only this is done: the guarantee is spent, and its coin comes to the POT". */
    private static void seizedForEachOutcome() {
        int[][] bodies = {Program.no(), Program.integer(1), Program.nil(), Program.delay(Program.yes()),
            Program.error(), Program.endless()};
        int[] outcomes = {1, 1, 1, 1, 2, 3};
        for (int i = 0; i < bodies.length; i++) {
            ScriptLedger x = new ScriptLedger(0);
            Program.define(x, Program.script(bodies[i]));
            Deal made = new Deal().input(0, 0).gift(4, 7, 200, 0, 0).gift(5, 8, 200, 0, 0).coin(80);
            submit("locked", x, made.fee(20).signers(1), 0);
            Deal deal = new Deal().input(2, 0).input(4, 0).gift(3, 1, 260, 0, 0);
            submit("outcome " + outcomes[i], x, deal.fee(20).signers(3).budget(99).guarantee(1), 1);
            DUE.same("its outcome", x.result(0), outcomes[i]);
            onlySeized("outcome " + outcomes[i], x);
        }
    }

    private static void seizedForEachScript() {
        for (int wrong = 0; wrong < 4; wrong++) {
            ScriptLedger x = locked();
            Deal deal = new Deal().input(2, wrong == 0 ? 0 : 7).input(3, wrong == 1 ? 0 : 8).input(4, 0);
            deal.mint(1, 5, wrong == 2 ? 0 : 5).mint(2, 6, wrong == 3 ? 0 : 6).gift(0, 0, 460, 5, 6);
            submit("script " + wrong, x, deal.fee(20).signers(3).budget(64).guarantee(1), 1);
            onlySeized("script " + wrong, x);
        }
    }

    /** Script 2 agrees when the context has its redeemer at that place. */
    private static int[] seesInContext(int place) {
        return Program.script(Program.builtin(Program.EQUAL, Program.variable(1), Program.inContext(place)));
    }

    /** "what it is run for (the input's place from 0, or 8 + the asset), ..": each of the ten, and one off. */
    private static void placesInContext() {
        int[] context = {0, -9, 77, 23, 11, 2, 3, 40, -50, 700};
        for (int place = 0; place < context.length; place++) {
            for (int off = -1; off <= 1; off++) {
                inContext(place, context[place] + off, 0, off == 0 ? 0 : 1);
            }
        }
        for (int inputPlace = 0; inputPlace <= 2; inputPlace++) {
            for (int redeemer = -1; redeemer <= 3; redeemer++) {
                inContext(0, redeemer, inputPlace, redeemer == inputPlace ? 0 : 1);
            }
        }
        for (int asset = 1; asset <= 2; asset++) {
            for (int redeemer = 7; redeemer <= 11; redeemer++) {
                inContextOfPolicy(asset, 0, redeemer, redeemer == 8 + asset ? 0 : 1);
            }
            inContextOfPolicy(asset, 9, 700, 0);
            inContextOfPolicy(asset, 9, 701, 1);
        }
    }

    private static void inContext(int place, int redeemer, int inputPlace, int answer) {
        ScriptLedger x = furnished();
        DUE.same("define", Program.define(x, seesInContext(place)), 2);
        Deal deal = new Deal();
        for (int i = 0; i < inputPlace; i++) {
            deal.input(3 - i, 0);
        }
        deal.input(4, redeemer);
        if (inputPlace == 0) {
            deal.input(3, 0);
        }
        submit("context " + place + " is " + redeemer, x, rest(deal), answer);
    }

    /** Output 2 has nothing, 3 has 50 of token 2 and 400 coins, 4 has 300 and script 2 as its lock; policies agree. */
    private static ScriptLedger furnished() {
        ScriptLedger x = new ScriptLedger(220);
        Program.define(x, Program.script(Program.yes()));
        Program.define(x, Program.script(Program.yes()));
        Deal deal = new Deal().input(0, 0).coin(0).gift(0, 0, 400, 0, 50).gift(6, 0, 300, 0, 0).mint(2, 50, 0);
        submit("furnished", x, deal.fee(20).signers(3).budget(64).guarantee(1), 0);
        return x;
    }

    private static Deal rest(Deal deal) {
        deal.mint(1, 40, 0).mint(2, -50, 0).gift(0, 0, 600, 40, 0).coin(77).coin(0);
        return deal.fee(23).within(-9, 77).signers(11).budget(99).guarantee(1);
    }

    private static void inContextOfPolicy(int asset, int place, int redeemer, int answer) {
        ScriptLedger x = new ScriptLedger(200);
        Program.define(x, asset == 1 ? seesInContext(place) : Program.script(Program.yes()));
        Program.define(x, asset == 2 ? seesInContext(place) : Program.script(Program.yes()));
        Deal deal = new Deal().input(0, 0).mint(asset, 5, redeemer).mint(3 - asset, 6, 0);
        deal.gift(0, 0, 676, asset == 1 ? 5 : 6, asset == 2 ? 5 : 6);
        deal.fee(24).signers(3).budget(99).guarantee(1);
        submit("context " + place + " of asset " + asset, x, deal, answer);
    }

    /** "the beginning and the end of the interval, the fee, the signers (the sum of 2^key)" at their limits. */
    private static void edgesOfContext() {
        for (int[] interval : new int[][] {{LEAST, MOST}, {0, 0}, {-1, 40}, {0, MOST}, {LEAST, 0}}) {
            for (int i = 0; i < 2; i++) {
                seen(1 + i, interval[i], policyDeal(20, 3).within(interval[0], interval[1]));
            }
        }
        for (int signers : new int[] {3, 7, 11, 15}) {
            seen(4, signers, policyDeal(20, signers));
        }
        for (int fee : new int[] {16, 17, 249, 250}) {
            seen(3, fee, policyDeal(fee, 3));
        }
        seen(7, 1, policyDeal(20, 3));
        seen(8, 0, policyDeal(20, 3));
    }

    private static Deal policyDeal(int fee, int signers) {
        Deal deal = new Deal().input(0, 0).gift(0, 0, 500 - fee, 1, 0).mint(1, 1, 0);
        return deal.fee(fee).signers(signers).budget(72).guarantee(1);
    }

    /** A policy whose value is what stands at that place of the context shows it by promise 5. */
    private static void seen(int place, int number, Deal deal) {
        ScriptLedger x = new ScriptLedger(0);
        Program.define(x, Program.script(Program.inContext(place)));
        submit("context " + place, x, deal, 1);
        DUE.same("context " + place + ": kind", x.result(2), 0);
        DUE.same("context " + place + ": number", x.result(3), number);
    }

    /** "how many inputs, how many new outputs, .., the coin of all inputs". */
    private static void sizesInContext() {
        for (int place : new int[] {5, 6, 9}) {
            for (int ins = 1; ins <= 3; ins++) {
                for (int outs = 1; outs <= 3; outs++) {
                    ScriptLedger x = new ScriptLedger(0);
                    Program.define(x, Program.script(Program.inContext(place)));
                    submit("split", x, new Deal().input(0, 0).coin(70).coin(400).fee(30).signers(1), 0);
                    Deal funded = new Deal().input(1, 0).gift(1, 0, 70, 0, 0).gift(1, 0, 400, 0, 0).fee(30).signers(2);
                    submit("split", x, funded, 0);
                    Deal deal = new Deal().input(2, 0).mint(1, 1, 0);
                    int coin = 70;
                    for (int i = 1; i < ins; i++) {
                        deal.input(2 + i, 0);
                        coin += i == 1 ? 400 : 70;
                    }
                    deal.gift(0, 0, coin - 30, 1, 0);
                    for (int i = 1; i < outs; i++) {
                        deal.coin(0);
                    }
                    submit("sizes", x, deal.fee(30).signers(3).budget(64).guarantee(5), 1);
                    DUE.same("context " + place, x.result(3), place == 5 ? ins : place == 6 ? outs : coin);
                }
            }
        }
        ScriptLedger x = new ScriptLedger(0);
        Program.define(x, Program.script(Program.inContext(6)));
        submit("made", x, new Deal().input(0, 0).gift(4, 0, 50, 0, 0).coin(430).fee(20).signers(1), 0);
        submit("no new output", x, new Deal().input(2, 0).fee(50).signers(2).budget(64).guarantee(1), 1);
        DUE.same("no new output", x.result(3), 0);
    }

    private static void lengthOfContext() {
        ScriptLedger x = furnished();
        Program.define(x, Program.script(Program.variable(0)));
        submit("a list is not true", x, rest(new Deal().input(4, 0).input(3, 0)), 1);
        DUE.same("a list", x.result(2), 2);
        DUE.same("of ten", x.result(3), 10);
    }

    /** Promise 4 gives "the empty list", also behind a transaction that had a context. */
    private static void noContextInRun() {
        ScriptLedger x = furnished();
        Program.define(x, Program.script(Program.variable(0)));
        submit("with a context", x, rest(new Deal().input(4, 0).input(3, 0)), 1);
        DUE.same("run", x.run(2, 0, 0, 99), 1);
        DUE.same("a list", x.result(2), 2);
        DUE.same("of none", x.result(3), 0);
    }
}
