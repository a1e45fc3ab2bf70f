import java.util.ArrayList;
import java.util.List;

/** A transaction written down before it is made, so that a test can change one thing of it. */
final class Deal {
    final List<int[]> inputs = new ArrayList<>();
    final List<int[]> gifts = new ArrayList<>();
    private final int[] minted = new int[3];
    private final int[] mintRedeemers = new int[3];
    int fee;
    int from;
    int to = 40;
    int signers;
    int budget;
    int guarantee = -1;

    Deal input(int output, int redeemer) {
        inputs.add(new int[] {output, redeemer});
        return this;
    }

    Deal gift(int lock, int datum, int coin, int first, int second) {
        gifts.add(new int[] {lock, datum, coin, first, second});
        return this;
    }

    /** A new output of key 0 with coin alone. */
    Deal coin(int coin) {
        return gift(0, 0, coin, 0, 0);
    }

    Deal mint(int asset, int amount, int redeemer) {
        minted[asset] = amount;
        mintRedeemers[asset] = redeemer;
        return this;
    }

    Deal fee(int newFee) {
        fee = newFee;
        return this;
    }

    Deal within(int newFrom, int newTo) {
        from = newFrom;
        to = newTo;
        return this;
    }

    Deal signers(int newSigners) {
        signers = newSigners;
        return this;
    }

    Deal budget(int newBudget) {
        budget = newBudget;
        return this;
    }

    Deal guarantee(int output) {
        guarantee = output;
        return this;
    }

    int leastFee() {
        return 5 + inputs.size() + gifts.size() + budget / 8;
    }

    /** Makes it the transaction under way of an object whose transaction is empty; every call must be taken. */
    void make(Due due, ScriptLedger x) {
        for (int[] input : inputs) {
            due.yes("spend " + input[0], x.spend(input[0], input[1]));
        }
        for (int[] gift : gifts) {
            due.yes("give " + gift[2], x.give(gift[0], gift[1], gift[2], gift[3], gift[4]));
        }
        for (int asset = 1; asset < 3; asset++) {
            if (minted[asset] != 0) {
                due.yes("mint of " + asset, x.mint(asset, minted[asset], mintRedeemers[asset]));
            }
        }
        due.yes("terms", x.terms(fee, from, to, signers, budget));
        if (guarantee >= 0) {
            due.yes("guarantee " + guarantee, x.guarantee(guarantee));
        }
    }

    int submit(Due due, ScriptLedger x) {
        make(due, x);
        return x.submit();
    }
}
