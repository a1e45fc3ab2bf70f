/** Promises 15 to 18: outputs, about, total and pot. */
public final class QuestionsTest {
    private static final int[] FAR = {Integer.MAX_VALUE, Integer.MIN_VALUE};

    public static void main(String[] args) {
        Due due = new Due();
        ScriptLedger x = new ScriptLedger(100);
        Program.define(x, Program.script(Program.yes()));
        Program.define(x, Program.script(Program.yes()));
        due.same("outputs", x.outputs(), 2);
        x.spend(0, 0);
        x.mint(1, 30, 0);
        x.mint(2, 70, 0);
        x.give(8, -99, 300, 30, 0);
        x.give(2, 5, 270, 0, 70);
        x.guarantee(1);
        x.terms(30, 0, 40, 3, 64);
        due.same("outputs of the transaction are not there yet", x.outputs(), 2);
        due.same("nor in the total", x.total(1), 0);
        due.same("submit", x.submit(), 0);
        due.same("outputs", x.outputs(), 4);
        isOutput(due, x, 0, 600, 0, 0, 0, 0, 1);
        isOutput(due, x, 1, 600, 0, 0, 1, 0, 0);
        isOutput(due, x, 2, 300, 30, 0, 8, -99, 0);
        isOutput(due, x, 3, 270, 0, 70, 2, 5, 0);
        totals(due, x, 1170, 30, 70);
        due.same("pot", x.pot(), 30);
        for (int output : new int[] {-1, 4, 48, FAR[0], FAR[1]}) {
            for (int what = -1; what <= 6; what++) {
                due.same("about(" + output + ", " + what + ")", x.about(output, what), -1);
            }
        }
        x.spend(3, 0);
        x.give(0, 0, 260, 0, 70);
        x.terms(10, 0, 40, 4, 0);
        due.same("submit", x.submit(), 0);
        due.same("outputs that are spent are there too", x.outputs(), 5);
        isOutput(due, x, 3, 270, 0, 70, 2, 5, 1);
        totals(due, x, 1160, 30, 70);
        due.same("pot", x.pot(), 40);
        due.end();
    }

    private static void isOutput(Due due, ScriptLedger x, int output, int... parts) {
        for (int what = 0; what < parts.length; what++) {
            due.same("about(" + output + ", " + what + ")", x.about(output, what), parts[what]);
        }
        for (int what : new int[] {-1, 6, 7, FAR[0], FAR[1]}) {
            due.same("about(" + output + ", " + what + ")", x.about(output, what), -1);
        }
    }

    private static void totals(Due due, ScriptLedger x, int coin, int first, int second) {
        due.same("total(0)", x.total(0), coin);
        due.same("total(1)", x.total(1), first);
        due.same("total(2)", x.total(2), second);
        for (int asset : new int[] {-1, 3, FAR[0], FAR[1]}) {
            due.same("total(" + asset + ")", x.total(asset), -1);
        }
    }
}
