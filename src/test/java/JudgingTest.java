import java.util.ArrayList;
import java.util.List;

/**
 * "JUDGING it: the first that applies of" the reasons 2 to 10, then the scripts. Each reason is one
 * change to a deal that is accepted, so every set of changes can be tried; the least number among
 * them is due, and nothing of the ledger may have changed.
 */
public final class JudgingTest {
    private static final Due DUE = new Due();

    private static final int HEIGHT = 2;
    private static final int OUTPUTS = 47;
    private static final int LOCKED_BY_SCRIPT = 2;
    private static final int LOCKED_BY_KEY = 3;
    private static final int SPENT_WITHOUT_COIN = 7;
    private static final int GUARANTEE = 1;
    private static final int GUARANTEE_COIN = 1400;
    private static final int DATUM = 7;
    private static final int INPUT_COIN = 200;
    private static final int FEE = 30;

    private static final int SCRIPT_DISAGREES = 1;
    private static final int FIRST_REASON = 2;
    private static final int LAST_REASON = 10;

    public static void main(String[] args) {
        List<Integer> untouched = Seen.of(crowded());
        for (int reasons = 0; reasons < 1 << LAST_REASON + 1; reasons += 2) {
            judged(reasons, untouched);
        }
        DUE.end();
    }

    /**
     * 47 outputs at height 2, script 0 alone is defined, nothing was run. Script 0 wants the datum as
     * redeemer. Output 2 is locked by it, 3 by key 0, 7 has no coin and is spent.
     */
    private static ScriptLedger crowded() {
        ScriptLedger x = new ScriptLedger(900);
        int[] isDatum = Program.builtin(Program.EQUAL, Program.variable(2), Program.variable(1));
        Program.define(x, Program.script(isDatum));
        int coin = 1400 - INPUT_COIN - FEE;
        Deal first = new Deal().input(0, 0).gift(4, DATUM, 100, 0, 0).coin(100).coin(coin);
        DUE.same("the first three", first.fee(FEE).signers(1).submit(DUE, x), 0);
        int latest = 4;
        for (int i = 0; i < 14; i++) {
            coin -= FEE;
            Deal next = new Deal().input(latest, 0).coin(coin).coin(0).coin(0);
            if (i == 13) {
                next.input(SPENT_WITHOUT_COIN, 0);
            }
            DUE.same("three more", next.fee(FEE).signers(1).submit(DUE, x), 0);
            latest = 5 + 3 * i;
        }
        x.block();
        x.block();
        return x;
    }

    /** The reasons are bits; bit 1 is a script that disagrees. */
    private static boolean has(int reasons, int reason) {
        return (reasons >> reason & 1) == 1;
    }

    private static Deal deal(int reasons) {
        Deal deal = new Deal().within(HEIGHT, HEIGHT).signers(3).budget(16).guarantee(GUARANTEE);
        if (!has(reasons, 2)) {
            deal.input(LOCKED_BY_SCRIPT, has(reasons, SCRIPT_DISAGREES) ? DATUM + 1 : DATUM).input(LOCKED_BY_KEY, 0);
            if (has(reasons, 3)) {
                deal.input(SPENT_WITHOUT_COIN, 0);
            }
        }
        if (has(reasons, 4)) {
            deal.within(HEIGHT + 1, 40);
        }
        if (has(reasons, 7)) {
            deal.signers(2);
        }
        int tokens = has(reasons, 8) ? 5 : 0;
        deal.mint(2, tokens, 5);
        if (has(reasons, 9)) {
            deal.guarantee(OUTPUTS);
        }
        deal.gift(0, 0, 0, 0, tokens);
        if (has(reasons, 10)) {
            deal.coin(0);
        }
        deal.fee(has(reasons, 5) ? deal.leastFee() - 1 : FEE);
        deal.gifts.get(0)[2] = INPUT_COIN - deal.fee + (has(reasons, 6) ? 1 : 0);
        return deal;
    }

    private static int due(int reasons) {
        for (int reason = FIRST_REASON; reason <= LAST_REASON; reason++) {
            if (has(reasons, reason)) {
                return reason;
            }
        }
        return has(reasons, SCRIPT_DISAGREES) ? 1 : 0;
    }

    private static void judged(int reasons, List<Integer> untouched) {
        String name = "a deal with the reasons " + written(reasons);
        int answer = due(reasons);
        ScriptLedger x = crowded();
        DUE.same(name, deal(reasons).submit(DUE, x), answer);
        if (answer >= FIRST_REASON) {
            DUE.same(name, Seen.of(x), untouched);
        } else if (answer == SCRIPT_DISAGREES) {
            DUE.same(name, Seen.ofLedger(x), seized(untouched));
        } else {
            DUE.same(name, Seen.ofLedger(x), accepted(untouched));
        }
    }

    private static String written(int reasons) {
        StringBuilder text = new StringBuilder();
        for (int reason = 1; reason <= LAST_REASON; reason++) {
            if (has(reasons, reason)) {
                text.append(reason).append(' ');
            }
        }
        return text.toString();
    }

    /** The answers of Seen begin with outputs, pot, height and three totals; six about each output follow. */
    private static void markSpent(List<Integer> answers, int output) {
        int coin = answers.get(6 + 6 * output);
        answers.set(3, answers.get(3) - coin);
        answers.set(6 + 6 * output + 5, 1);
    }

    private static List<Integer> ledgerPart(List<Integer> untouched) {
        return new ArrayList<>(untouched.subList(0, 6 + 6 * OUTPUTS));
    }

    private static List<Integer> seized(List<Integer> untouched) {
        List<Integer> answers = ledgerPart(untouched);
        markSpent(answers, GUARANTEE);
        answers.set(1, answers.get(1) + GUARANTEE_COIN);
        return answers;
    }

    private static List<Integer> accepted(List<Integer> untouched) {
        List<Integer> answers = ledgerPart(untouched);
        markSpent(answers, LOCKED_BY_SCRIPT);
        markSpent(answers, LOCKED_BY_KEY);
        answers.set(0, OUTPUTS + 1);
        answers.set(1, answers.get(1) + FEE);
        answers.set(3, answers.get(3) + INPUT_COIN - FEE);
        answers.addAll(List.of(INPUT_COIN - FEE, 0, 0, 0, 0, 0));
        return answers;
    }
}
