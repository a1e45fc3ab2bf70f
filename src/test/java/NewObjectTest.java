/** Promise 1: a new object. */
public final class NewObjectTest {
    public static void main(String[] args) {
        Due due = new Due();
        int[][] coinsAndAmounts = {
            {0, 500}, {1, 501}, {250, 750}, {999, 1499}, {1000, 500}, {1001, 501}, {1999, 1499}, {2000, 500},
            {-1, 500}, {-999, 500}, {-1000, 500}, {-1001, 500}, {Integer.MAX_VALUE, 1147}, {Integer.MIN_VALUE, 500}};
        for (int[] pair : coinsAndAmounts) {
            looksNew(due, pair[0], pair[1]);
        }
        startsEmpty(due);
        due.end();
    }

    private static void looksNew(Due due, int coins, int amount) {
        ScriptLedger x = new ScriptLedger(coins);
        due.same("outputs", x.outputs(), 2);
        for (int output = 0; output < 2; output++) {
            due.same("coin of a new object with " + coins, x.about(output, 0), amount);
            due.same("first token", x.about(output, 1), 0);
            due.same("second token", x.about(output, 2), 0);
            due.same("lock", x.about(output, 3), output);
            due.same("datum", x.about(output, 4), 0);
            due.same("spent", x.about(output, 5), 0);
        }
        due.same("total of coin", x.total(0), 2 * amount);
        due.same("total of asset 1", x.total(1), 0);
        due.same("total of asset 2", x.total(2), 0);
        due.same("pot", x.pot(), 0);
        due.same("height", x.height(), 0);
    }

    private static void startsEmpty(Due due) {
        due.same("an empty draft is malformed", new ScriptLedger(0).define(), -2);
        ScriptLedger x = new ScriptLedger(0);
        due.yes("an empty draft has room for 48 bytes", Program.type(x, new int[48]));
        due.no("and for no more", x.type(8, 1));
        due.same("an empty transaction has no input", new ScriptLedger(0).submit(), 2);
        due.same("no script is there", new ScriptLedger(0).run(0, 0, 0, 99), -1);
        due.same("nothing was run", new ScriptLedger(0).result(0), -1);
    }
}
