import java.util.Arrays;

/**
 * Promise 12: submit, and what "Terms" says of the reasons 2 to 10 of judging, each on both sides of
 * its boundary. Their order is JudgingTest's.
 */
public final class FirstPhaseTest {
    private static final Due DUE = new Due();
    private static final int MOST = Integer.MAX_VALUE;
    private static final int LEAST = Integer.MIN_VALUE;

    public static void main(String[] args) {
        noInput();
        notThere();
        spent();
        takenBack();
        intervals();
        fees();
        balances();
        balanceOfTokens();
        signatures();
        signaturesNotNeeded();
        undefinedLocks();
        undefinedPolicies();
        definitionsNotNeeded();
        badGuarantees();
        guaranteesOfKeys();
        guaranteesWithTokens();
        twiceTheFee();
        guaranteeNotNeeded();
        room();
        emptyAfterwards();
        DUE.end();
    }

    private static void submit(String name, ScriptLedger x, Deal deal, int answer) {
        DUE.same(name, deal.submit(DUE, x), answer);
    }

    /** Outputs 2, 3 and 4 have 200, 200 and 80 coins of key 0; 1 has 500 of key 1; 0 is spent. */
    private static ScriptLedger split() {
        ScriptLedger x = new ScriptLedger(0);
        submit("split", x, new Deal().input(0, 0).coin(200).coin(200).coin(80).fee(20).signers(1), 0);
        return x;
    }

    /**
     * Script 0 agrees, and so do the scripts behind it. Output 2 has 200 coins and is locked by script 0,
     * 3 has 40 of key 2, 4 has 240 of key 0; 1 has 500 of key 1; 0 is spent.
     */
    private static ScriptLedger locked(int scripts) {
        ScriptLedger x = new ScriptLedger(0);
        for (int script = 0; script < scripts; script++) {
            DUE.same("define", Program.define(x, Program.script(Program.yes())), script);
        }
        Deal deal = new Deal().input(0, 0).gift(4, 0, 200, 0, 0).gift(2, 0, 40, 0, 0).coin(240);
        submit("locked", x, deal.fee(20).signers(1), 0);
        return x;
    }

    /** "2 it has no input". */
    private static void noInput() {
        submit("no input", new ScriptLedger(0), new Deal().fee(500).signers(15), 2);
        submit("an input", new ScriptLedger(0), new Deal().input(0, 0).fee(500).signers(15), 0);
        DUE.same("an empty transaction", new ScriptLedger(0).submit(), 2);
    }

    /** "3 an input is not there": the last number that is there, and the one behind it, at each place. */
    private static void notThere() {
        submit("the last one", split(), new Deal().input(4, 0).fee(80).signers(1), 0);
        for (int output : new int[] {5, 6, 47, 48, MOST}) {
            submit("only " + output, split(), new Deal().input(output, 0).fee(80).signers(1), 3);
            submit("first " + output, split(), new Deal().input(output, 0).input(4, 0).fee(80).signers(1), 3);
            submit("second " + output, split(), new Deal().input(4, 0).input(output, 0).fee(80).signers(1), 3);
            Deal third = new Deal().input(4, 0).input(2, 0).input(output, 0).fee(280).signers(1);
            submit("third " + output, split(), third, 3);
        }
        submit("its own new output", split(), new Deal().input(4, 0).input(5, 0).coin(0).fee(80).signers(1), 3);
    }

    /** "or spent". */
    private static void spent() {
        submit("only 0", split(), new Deal().input(0, 0).fee(500).signers(1), 3);
        submit("first 0", split(), new Deal().input(0, 0).input(4, 0).fee(580).signers(1), 3);
        submit("second 0", split(), new Deal().input(4, 0).input(0, 0).fee(580).signers(1), 3);
        submit("third 0", split(), new Deal().input(4, 0).input(2, 0).input(0, 0).fee(780).signers(1), 3);
        ScriptLedger x = split();
        submit("not yet", x, new Deal().input(4, 0).fee(80).signers(1), 0);
        submit("just now", x, new Deal().input(4, 0).fee(80).signers(1), 3);
        x.block();
        submit("a block ago", x, new Deal().input(4, 0).fee(80).signers(1), 3);
    }

    private static void takenBack() {
        ScriptLedger x = new ScriptLedger(0);
        submit("made", x, new Deal().input(0, 0).coin(490).fee(10).signers(1), 0);
        x.rollback(0);
        submit("no more there", x, new Deal().input(2, 0).fee(490).signers(1), 3);
        submit("no more spent", x, new Deal().input(0, 0).fee(500).signers(1), 0);
    }

    /** "4 the height is not in the interval". */
    private static void intervals() {
        for (int height : new int[] {0, 1, 20, 39, 40}) {
            interval(height, height, height, 0);
            interval(height, height, 40, 0);
            interval(height, 0, height, 0);
            interval(height, height + 1, 41, 4);
            interval(height, height + 1, height + 1, 4);
            interval(height, -1, height - 1, 4);
            interval(height, height - 1, height - 1, 4);
            interval(height, height + 1, height - 1, 4);
            interval(height, height + 1, height, 4);
            interval(height, height, height - 1, 4);
            interval(height, LEAST, MOST, 0);
            interval(height, MOST, LEAST, 4);
            interval(height, LEAST, LEAST, 4);
            interval(height, MOST, MOST, 4);
            interval(height, LEAST, height, 0);
            interval(height, height, MOST, 0);
        }
    }

    private static void interval(int height, int from, int to, int answer) {
        ScriptLedger x = new ScriptLedger(0);
        for (int i = 0; i < height; i++) {
            x.block();
        }
        Deal deal = new Deal().input(0, 0).fee(500).within(from, to).signers(1);
        submit("height " + height + " in " + from + " .. " + to, x, deal, answer);
    }

    /** "5 the fee is less than 5 + its inputs + its new outputs + budget / 8 (rounded down)". */
    private static void fees() {
        for (int ins = 1; ins <= 3; ins++) {
            for (int outs = 1; outs <= 3; outs++) {
                for (int budget : new int[] {0, 1, 7, 8, 9, 15, 16, 87, 88, 95, 96, 99}) {
                    int least = 5 + ins + outs + budget / 8;
                    fee(ins, outs, budget, least - 1, 5);
                    fee(ins, outs, budget, least, 0);
                    fee(ins, outs, budget, least + 1, 0);
                    fee(ins, outs, budget, 0, 5);
                }
            }
        }
        submit("no new output, 6 of 500", new ScriptLedger(0), new Deal().input(0, 0).fee(5).signers(1), 5);
        submit("no new output, 6 of 500", new ScriptLedger(0), new Deal().input(0, 0).fee(6).signers(1), 6);
        submit("no new output, all", new ScriptLedger(0), new Deal().input(0, 0).fee(500).signers(1), 0);
    }

    private static void fee(int ins, int outs, int budget, int fee, int answer) {
        ScriptLedger x = split();
        Deal deal = new Deal().fee(fee).signers(1).budget(budget);
        int coin = -fee;
        for (int i = 0; i < ins; i++) {
            deal.input(4 - i, 0);
            coin += i == 0 ? 80 : 200;
        }
        for (int i = 0; i < outs; i++) {
            deal.coin(i == 0 ? coin : 0);
        }
        submit(ins + " inputs, " + outs + " outputs, budget " + budget + ", fee " + fee, x, deal, answer);
        DUE.same("the pot", x.pot(), answer == 0 ? 20 + fee : 20);
    }

    /** "6 for some asset, what the inputs have, .. is not what the new outputs have, for coin with the fee". */
    private static void balances() {
        for (int off = -1; off <= 1; off++) {
            int answer = off == 0 ? 0 : 6;
            Deal one = new Deal().input(0, 0).coin(480 + off).fee(20).signers(1);
            submit("one of 500", new ScriptLedger(0), one, answer);
            Deal two = new Deal().input(2, 0).input(4, 0).coin(100 + off).coin(160).fee(20).signers(1);
            submit("two of 280", split(), two, answer);
            Deal three = new Deal().input(2, 0).input(4, 0).input(3, 0).coin(0).coin(400).coin(60 + off);
            submit("three of 480", split(), three.fee(20).signers(1), answer);
            submit("the fee", split(), new Deal().input(2, 0).coin(180).fee(20 + off).signers(1), answer);
        }
        submit("the fee is not made of nothing", split(), new Deal().input(2, 0).coin(200).fee(20).signers(1), 6);
        submit("the most", split(), new Deal().input(2, 0).coin(1000000).fee(20).signers(1), 6);
        submit("the most as a fee", split(), new Deal().input(2, 0).fee(1000000).signers(1), 6);
    }

    /** "and what is minted of it". */
    private static void balanceOfTokens() {
        int[][] firstSecondMintedAnswer = {
            {1, 0, 0, 0, 6}, {0, 1, 0, 0, 6}, {0, 0, 1, 0, 6}, {0, 0, 0, 1, 6}, {0, 0, -1, 0, 6}, {0, 0, 0, -1, 6},
            {5, 7, 7, 5, 6}, {5, 0, 4, 0, 6}, {5, 0, 6, 0, 6}, {0, 5, 0, 4, 6}, {0, 5, 0, 6, 6}, {5, 0, 0, 5, 6},
            {0, 0, 0, 0, 0}, {5, 0, 5, 0, 0}, {0, 7, 0, 7, 0}, {5, 7, 5, 7, 0}, {1000000, 0, 1000000, 0, 0},
            {0, 1000000, 0, 1000000, 0}, {1000000, 0, 999999, 0, 6}};
        for (int[] row : firstSecondMintedAnswer) {
            ScriptLedger x = locked(2);
            Deal deal = new Deal().input(4, 0).gift(0, 0, 220, row[0], row[1]).mint(1, row[2], 0).mint(2, row[3], 0);
            submit(Arrays.toString(row), x, deal.fee(20).signers(3).budget(99).guarantee(1), row[4]);
            DUE.same("total of coin", x.total(0) + x.pot(), 1000);
            DUE.same("total of 1", x.total(1), row[4] == 0 ? row[2] : 0);
            DUE.same("total of 2", x.total(2), row[4] == 0 ? row[3] : 0);
        }
        for (int off = -1; off <= 1; off++) {
            ScriptLedger x = withTokens(40, 30);
            Deal on = new Deal().input(5, 0).gift(0, 0, 100, 10, 0).gift(0, 0, 110, 30 + off, 30).fee(10).signers(1);
            submit("tokens go on", x, on, off == 0 ? 0 : 6);
            x = withTokens(40, 30);
            on = new Deal().input(5, 0).gift(0, 0, 100, 40, 0).gift(0, 0, 110, 0, 30 + off).fee(10).signers(1);
            submit("tokens go on", x, on, off == 0 ? 0 : 6);
            x = withTokens(40, 30);
            Deal away = new Deal().input(5, 0).gift(0, 0, 200, 0, 29).mint(1, -40 + off, 0).mint(2, -1, 0);
            submit("taken away", x, away.fee(20).signers(3).budget(40).guarantee(1), off == 0 ? 0 : 6);
        }
    }

    /** As locked(2), and output 5 has 220 coins and tokens of key 0. */
    private static ScriptLedger withTokens(int first, int second) {
        ScriptLedger x = locked(2);
        Deal deal = new Deal().input(4, 0).gift(0, 0, 220, first, second).mint(1, first, 0).mint(2, second, 0);
        submit("with tokens", x, deal.fee(20).signers(3).budget(40).guarantee(1), 0);
        return x;
    }

    /** "7 an input is locked by a key that is not among the signers". */
    private static void signatures() {
        for (int key = 0; key <= 3; key++) {
            for (int signers = 0; signers <= 15; signers++) {
                ScriptLedger x = new ScriptLedger(0);
                submit("to a key", x, new Deal().input(0, 0).gift(key, 0, 490, 0, 0).fee(10).signers(1), 0);
                boolean isSigned = (signers & 1 << key) != 0;
                Deal deal = new Deal().input(2, 0).fee(490).signers(signers);
                submit("key " + key + " by " + signers, x, deal, isSigned ? 0 : 7);
                x = new ScriptLedger(0);
                submit("to a key", x, new Deal().input(0, 0).gift(key, 0, 490, 0, 0).fee(10).signers(1), 0);
                deal = new Deal().input(2, 0).input(1, 0).fee(990).signers(signers);
                submit("keys " + key + " and 1 by " + signers, x, deal, isSigned && (signers & 2) != 0 ? 0 : 7);
            }
        }
        Deal three = new Deal().input(2, 0).input(3, 0).input(1, 0).fee(900);
        submit("all three inputs", split(), three.signers(3), 0);
        submit("the third input", split(), three.signers(1), 7);
        submit("the first inputs", split(), three.signers(2), 7);
    }

    private static void signaturesNotNeeded() {
        Deal toOthers = new Deal().input(0, 0).gift(1, 0, 200, 0, 0).gift(3, 0, 290, 0, 0).fee(10).signers(1);
        submit("keys of new outputs", new ScriptLedger(0), toOthers, 0);
        Deal byScript = new Deal().input(2, 0).coin(180).fee(20).signers(2).budget(40).guarantee(1);
        submit("a lock of a script, signed by the guarantee's key alone", locked(1), byScript, 0);
    }

    /** "8 a script that it NEEDS is not defined: those by which inputs are locked". */
    private static void undefinedLocks() {
        for (int scripts = 0; scripts <= 6; scripts++) {
            for (int script = 0; script <= 5; script++) {
                ScriptLedger x = new ScriptLedger(0);
                for (int i = 0; i < scripts; i++) {
                    Program.define(x, Program.script(Program.yes()));
                }
                submit("to a script", x, new Deal().input(0, 0).gift(4 + script, 0, 490, 0, 0).fee(10).signers(1), 0);
                Deal deal = new Deal().input(2, 0).coin(470).fee(20).signers(2).budget(40).guarantee(1);
                submit("script " + script + " of " + scripts, x, deal, script < scripts ? 0 : 8);
                DUE.same("no script is run", x.result(0), script < scripts ? 0 : -1);
            }
        }
        ScriptLedger x = new ScriptLedger(0);
        submit("to a script", x, new Deal().input(0, 0).gift(4, 0, 490, 0, 0).fee(10).signers(1), 0);
        Deal deal = new Deal().input(2, 0).coin(470).fee(20).signers(2).budget(40).guarantee(1);
        submit("not defined yet", x, deal, 8);
        Program.define(x, Program.script(Program.yes()));
        submit("defined now", x, deal, 0);
    }

    /** "and the policies of tokens of which it mints some (not 0)". */
    private static void undefinedPolicies() {
        for (int scripts = 0; scripts <= 2; scripts++) {
            for (int asset = 1; asset <= 2; asset++) {
                int first = asset == 1 ? 1 : 0;
                Deal deal = new Deal().input(4, 0).gift(0, 0, 220, first, 1 - first).mint(asset, 1, 0);
                deal.fee(20).signers(3).budget(40).guarantee(1);
                submit("policy of " + asset + " with " + scripts, locked(scripts), deal, asset <= scripts ? 0 : 8);
            }
            Deal both = new Deal().input(4, 0).gift(0, 0, 220, 1, 1).mint(1, 1, 0).mint(2, 1, 0);
            submit("both policies with " + scripts, locked(scripts),
                both.fee(20).signers(3).budget(40).guarantee(1), scripts == 2 ? 0 : 8);
        }
    }

    private static void definitionsNotNeeded() {
        ScriptLedger x = locked(0);
        DUE.yes("mint of 0", x.mint(1, 0, 5));
        DUE.yes("mint of 0", x.mint(2, 0, 5));
        submit("none is minted", x, new Deal().input(4, 0).coin(220).fee(20).signers(1), 0);
        x = locked(0);
        DUE.yes("mint of 1", x.mint(1, 1, 5));
        DUE.yes("mint of 0 in place of it", x.mint(1, 0, 5));
        submit("none is minted after all", x, new Deal().input(4, 0).coin(220).fee(20).signers(1), 0);
        submit("new outputs", locked(0), new Deal().input(4, 0).gift(9, 0, 220, 0, 0).fee(20).signers(1), 0);
    }

    private static Deal guaranteed(int output) {
        return new Deal().input(2, 0).coin(180).fee(20).signers(15).budget(40).guarantee(output);
    }

    /** "9 it needs a script and has no guarantee, or that is not there, is spent, is one of the inputs". */
    private static void badGuarantees() {
        submit("a good one", locked(1), guaranteed(4), 0);
        submit("none", locked(1), guaranteed(-1), 9);
        for (int output : new int[] {5, 6, 47, 48, MOST}) {
            submit(output + " is not there", locked(1), guaranteed(output), 9);
        }
        submit("spent", locked(1), guaranteed(0), 9);
        for (int place = 0; place < 3; place++) {
            Deal deal = new Deal().coin(420).fee(60).signers(15).budget(40);
            int[] order = place == 0 ? new int[] {4, 2, 3} : place == 1 ? new int[] {2, 4, 3} : new int[] {2, 3, 4};
            for (int output : order) {
                deal.input(output, 0);
            }
            submit("input number " + place, locked(1), deal.guarantee(4), 9);
            submit("none of these inputs", locked(1), deal.guarantee(1), 0);
        }
        ScriptLedger x = locked(1);
        x.block();
        submit("made", x, new Deal().input(1, 0).gift(1, 0, 480, 0, 0).fee(20).signers(2), 0);
        x.rollback(0);
        submit("no more there", x, guaranteed(5), 9);
        submit("no more spent", x, guaranteed(1), 0);
    }

    /** "is not locked by one of the signers' keys". */
    private static void guaranteesOfKeys() {
        for (int lock = 0; lock <= 9; lock++) {
            for (int signers = 0; signers <= 15; signers++) {
                ScriptLedger x = new ScriptLedger(0);
                Program.define(x, Program.script(Program.yes()));
                Deal made = new Deal().input(0, 0).gift(4, 0, 200, 0, 0).gift(lock, 0, 280, 0, 0).fee(20).signers(1);
                submit("made", x, made, 0);
                boolean isSigned = lock <= 3 && (signers & 1 << lock) != 0;
                Deal deal = new Deal().input(2, 0).coin(180).fee(20).signers(signers).budget(40).guarantee(3);
                submit("lock " + lock + " by " + signers, x, deal, isSigned ? 0 : 9);
            }
        }
    }

    /** "has a token". */
    private static void guaranteesWithTokens() {
        submit("without tokens", withTokens(0, 0), guaranteed(5), 0);
        submit("with one of asset 1", withTokens(1, 0), guaranteed(5), 9);
        submit("with one of asset 2", withTokens(0, 1), guaranteed(5), 9);
        submit("with both", withTokens(3, 4), guaranteed(5), 9);
        submit("tokens of inputs do not matter", withTokens(1, 0), guaranteed(1), 0);
    }

    /** "or less coin than twice the fee". */
    private static void twiceTheFee() {
        for (int fee = 18; fee <= 22; fee++) {
            Deal deal = new Deal().input(2, 0).coin(200 - fee).fee(fee).signers(15).budget(40).guarantee(3);
            submit("40 coins for a fee of " + fee, locked(1), deal, fee <= 20 ? 0 : 9);
        }
        Deal all = new Deal().input(2, 0).fee(200).signers(15).budget(40);
        submit("240 coins for a fee of 200", locked(1), all.guarantee(4), 9);
        submit("500 coins for a fee of 200", locked(1), all.guarantee(1), 0);
    }

    private static void guaranteeNotNeeded() {
        for (int guarantee : new int[] {-1, 0, 1, 2, 4, 5, MOST}) {
            Deal deal = new Deal().input(4, 0).coin(220).fee(20).signers(1).guarantee(guarantee);
            submit("no script is needed, guarantee " + guarantee, locked(1), deal, 0);
        }
        Deal minted = new Deal().input(4, 0).gift(0, 0, 220, 1, 0).mint(1, 1, 0).fee(20).signers(3).budget(40);
        submit("a policy is needed", locked(1), minted, 9);
        submit("a policy is needed", locked(1), minted.guarantee(1), 0);
    }

    /** "10 there would be more than 48 outputs". */
    private static void room() {
        for (int outs = 0; outs <= 3; outs++) {
            roomFor(45, outs, 0);
            roomFor(46, outs, outs <= 2 ? 0 : 10);
            roomFor(47, outs, outs <= 1 ? 0 : 10);
            roomFor(48, outs, outs == 0 ? 0 : 10);
        }
        ScriptLedger x = crowded(48);
        submit("a 49th", x, new Deal().input(1, 0).coin(1380).fee(20).signers(2), 10);
        x.rollback(1);
        submit("room again", x, new Deal().input(1, 0).coin(1380).fee(20).signers(2), 0);
        DUE.same("outputs", x.outputs(), 3);
    }

    private static void roomFor(int outputs, int outs, int answer) {
        ScriptLedger x = crowded(outputs);
        Deal deal = new Deal().input(1, 0).fee(outs == 0 ? 1400 : 20).signers(2);
        for (int i = 0; i < outs; i++) {
            deal.coin(i == 0 ? 1380 : 0);
        }
        submit(outs + " more than " + outputs, x, deal, answer);
        DUE.same("outputs", x.outputs(), answer == 0 ? outputs + outs : outputs);
        if (outs > 0) {
            DUE.same("coin of the first of them", x.about(outputs, 0), answer == 0 ? 1380 : -1);
            DUE.same("the last of them", x.about(outputs + outs - 1, 5), answer == 0 ? 0 : -1);
        }
    }

    /** That many outputs, all but the first two made at height 1; 1 has 1400 coins of key 1. */
    private static ScriptLedger crowded(int outputs) {
        ScriptLedger x = new ScriptLedger(900);
        x.block();
        int coin = 1400;
        int latest = 0;
        int more = 0;
        for (int there = 2; there < outputs; there += more) {
            more = Math.min(3, outputs - there);
            coin -= 9;
            Deal deal = new Deal().input(latest, 0).fee(9).signers(1);
            latest = there;
            for (int i = 0; i < more; i++) {
                deal.coin(i == 0 ? coin : 0);
            }
            submit("more", x, deal, 0);
        }
        DUE.same("outputs", x.outputs(), outputs);
        return x;
    }

    /** "the transaction is empty then, whatever that is". */
    private static void emptyAfterwards() {
        Deal accepted = new Deal().input(4, 0).coin(220).fee(20).signers(1).guarantee(1);
        Deal unbalanced = new Deal().input(4, 0).coin(221).fee(20).signers(1).guarantee(1);
        Deal minted = new Deal().input(4, 0).gift(0, 0, 220, 0, 1).mint(2, 1, 5);
        minted.fee(20).signers(3).budget(40).guarantee(1);
        Deal[] deals = {new Deal().fee(20).signers(15).guarantee(1), new Deal().input(0, 0).coin(5).fee(20).signers(15),
            accepted, unbalanced, minted};
        int[] answers = {2, 3, 0, 6, 8};
        for (int i = 0; i < deals.length; i++) {
            for (int next = 0; next < 4; next++) {
                ScriptLedger x = locked(1);
                submit("submit", x, deals[i], answers[i]);
                leftOver(x, next);
            }
        }
    }

    private static void leftOver(ScriptLedger x, int next) {
        if (next == 0) {
            DUE.same("no input is left", x.submit(), 2);
        } else if (next == 1) {
            x.spend(1, 0);
            DUE.same("the fee is 0", x.submit(), 5);
        } else if (next == 2) {
            submit("no guarantee is left", x, guaranteed(-1), 9);
        } else {
            submit("no new output and nothing minted is left", x, new Deal().input(1, 0).fee(500).signers(2), 0);
        }
    }
}
