/** Promises 15 to 18: outputs, about, total and pot. */
public final class QuestionsTest {
    private static final Due DUE = new Due();
    private static final int MOST = Integer.MAX_VALUE;
    private static final int LEAST = Integer.MIN_VALUE;

    public static void main(String[] args) {
        ScriptLedger x = new ScriptLedger(100);
        Program.define(x, Program.script(Program.yes()));
        Program.define(x, Program.script(Program.yes()));
        DUE.same("outputs", x.outputs(), 2);
        Deal deal = new Deal().input(0, 0).mint(1, 30, 0).mint(2, 70, 0);
        deal.gift(8, -99, 300, 30, 0).gift(2, 5, 270, 0, 70).fee(30).signers(3).budget(64).guarantee(1).make(DUE, x);
        DUE.same("outputs of the transaction are not there yet", x.outputs(), 2);
        DUE.same("nor can they be asked about", x.about(2, 0), -1);
        DUE.same("nor are they in the total", x.total(1), 0);
        DUE.same("nor is the fee in the pot", x.pot(), 0);
        DUE.same("submit", x.submit(), 0);
        DUE.same("outputs", x.outputs(), 4);
        isOutput(x, 0, 600, 0, 0, 0, 0, 1);
        isOutput(x, 1, 600, 0, 0, 1, 0, 0);
        isOutput(x, 2, 300, 30, 0, 8, -99, 0);
        isOutput(x, 3, 270, 0, 70, 2, 5, 0);
        totals(x, 1170, 30, 70);
        DUE.same("pot", x.pot(), 30);
        noSuchOutput(x, 4);
        spentOnes(x);
        noSuchOutput(new ScriptLedger(0), 2);
        takenBack();
        DUE.end();
    }

    /** "0, 1, 2 its amount of that asset; 3 its lock; 4 its datum; 5 whether it is spent"; "-1 .. for another what". */
    private static void isOutput(ScriptLedger x, int output, int... parts) {
        for (int what = 0; what < parts.length; what++) {
            DUE.same("about(" + output + ", " + what + ")", x.about(output, what), parts[what]);
        }
        for (int what : new int[] {-1, 6, 7, MOST, LEAST}) {
            DUE.same("about(" + output + ", " + what + ")", x.about(output, what), -1);
        }
    }

    /** "How much of an asset the outputs have that are not spent; -1 when there is no such asset". */
    private static void totals(ScriptLedger x, int coin, int first, int second) {
        DUE.same("total(0)", x.total(0), coin);
        DUE.same("total(1)", x.total(1), first);
        DUE.same("total(2)", x.total(2), second);
        for (int asset : new int[] {-1, 3, 4, MOST, LEAST}) {
            DUE.same("total(" + asset + ")", x.total(asset), -1);
        }
    }

    /** "-1 when there is no such output". */
    private static void noSuchOutput(ScriptLedger x, int outputs) {
        for (int what = 0; what <= 5; what++) {
            DUE.yes("the last one is there", x.about(outputs - 1, what) >= 0);
            for (int output : new int[] {-1, outputs, outputs + 1, 47, 48, MOST, LEAST}) {
                DUE.same("about(" + output + ", " + what + ")", x.about(output, what), -1);
            }
        }
    }

    /** A spent output is there as before, but counts in no total. */
    private static void spentOnes(ScriptLedger x) {
        Deal deal = new Deal().input(3, 0).gift(0, 0, 260, 0, 70).fee(10).signers(4);
        DUE.same("submit", deal.submit(DUE, x), 0);
        DUE.same("outputs that are spent are there too", x.outputs(), 5);
        isOutput(x, 3, 270, 0, 70, 2, 5, 1);
        isOutput(x, 4, 260, 0, 70, 0, 0, 0);
        totals(x, 1160, 30, 70);
        DUE.same("pot", x.pot(), 40);
    }

    /** An output that was taken back is no such output. */
    private static void takenBack() {
        ScriptLedger x = new ScriptLedger(0);
        DUE.same("made", new Deal().input(0, 0).coin(490).fee(10).signers(1).submit(DUE, x), 0);
        DUE.same("there", x.about(2, 0), 490);
        DUE.same("rollback", x.rollback(0), 2);
        noSuchOutput(x, 2);
        totals(x, 1000, 0, 0);
        DUE.same("pot", x.pot(), 0);
        ScriptLedger all = new ScriptLedger(0);
        DUE.same("all is spent", new Deal().input(0, 0).input(1, 0).fee(1000).signers(3).submit(DUE, all), 0);
        totals(all, 0, 0, 0);
        DUE.same("pot", all.pot(), 1000);
    }
}
