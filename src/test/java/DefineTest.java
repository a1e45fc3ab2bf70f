/** Promise 3: define, and which drafts are malformed. */
public final class DefineTest {
    public static void main(String[] args) {
        Due due = new Due();
        numbers(due);
        wellFormed(due);
        malformed(due);
        variables(due);
        depth(due);
        due.end();
    }

    private static void numbers(Due due) {
        ScriptLedger x = new ScriptLedger(0);
        for (int script = 0; script < 6; script++) {
            due.same("malformed", Program.define(x, 9), -2);
            due.same("the number", Program.define(x, Program.integer(script)), script);
            due.same("the draft is empty", x.define(), script < 5 ? -2 : -1);
        }
        due.same("a seventh", Program.define(x, Program.nil()), -1);
        due.same("a malformed seventh", Program.define(x, 9), -1);
        due.yes("the draft is empty after a refusal", Program.type(x, new int[48]));
        due.same("a full seventh", x.define(), -1);
        due.yes("the draft is empty after that", Program.type(x, new int[48]));
    }

    private static void wellFormed(Due due) {
        int[][] terms = {
            {7}, {8}, {3, 0}, {3, 255}, {4, 0}, {4, 10}, {1, 0, 0}, {5, 8}, {6, 7}, {2, 7, 8}, {2, 2, 7, 8, 7},
            {2, 7, 2, 8, 7}, {1, 2, 0, 0, 5, 0, 0}, {2, 1, 0, 0, 3, 2}};
        for (int[] term : terms) {
            due.same("define of " + java.util.Arrays.toString(term), Program.define(new ScriptLedger(0), term), 0);
        }
    }

    private static void malformed(Due due) {
        int[][] drafts = {
            {}, {9}, {255}, {0}, {1}, {2}, {3}, {4}, {5}, {6}, {4, 11}, {4, 255}, {8, 8}, {7, 0}, {2, 8}, {2, 8, 3},
            {2, 8, 8, 8}, {1, 9}, {5, 9}, {6, 9}, {2, 9, 8}, {2, 8, 9}, {2, 4, 11, 8}, {3, 1, 2}, {1, 1, 1, 0},
            {2, 2, 8, 8}, {128, 8}};
        for (int[] draft : drafts) {
            ScriptLedger x = new ScriptLedger(0);
            due.same("define of " + java.util.Arrays.toString(draft), Program.define(x, draft), -2);
            due.same("run of what was malformed", x.run(0, 0, 0, 99), -1);
            due.same("the draft is empty afterwards", Program.define(x, 8), 0);
        }
    }

    private static void variables(Due due) {
        int[] zero = Program.variable(0);
        int[] one = Program.variable(1);
        due.same("outside", Program.define(new ScriptLedger(0), zero), -2);
        due.same("1 in one", Program.define(new ScriptLedger(0), Program.lambda(one)), -2);
        due.same("1 in two", Program.define(new ScriptLedger(0), Program.lambda(Program.lambda(one))), 0);
        due.same("255 in one", Program.define(new ScriptLedger(0), Program.lambda(Program.variable(255))), -2);
        due.same("a delay is no lambda", Program.define(new ScriptLedger(0), Program.delay(zero)), -2);
        due.same("a force is no lambda", Program.define(new ScriptLedger(0), Program.force(zero)), -2);
        due.same("an apply is no lambda",
            Program.define(new ScriptLedger(0), Program.apply(Program.nil(), zero)), -2);
        due.same("beside a lambda",
            Program.define(new ScriptLedger(0), Program.apply(Program.lambda(zero), zero)), -2);
        due.same("behind a lambda of another branch",
            Program.define(new ScriptLedger(0), Program.lambda(Program.apply(Program.lambda(zero), one))), -2);
        due.same("in a delay in a lambda",
            Program.define(new ScriptLedger(0), Program.lambda(Program.delay(Program.force(zero)))), 0);
        due.same("19 in twenty",
            Program.define(new ScriptLedger(0), Program.repeat(1, 20, Program.variable(19))), 0);
        due.same("20 in twenty",
            Program.define(new ScriptLedger(0), Program.repeat(1, 20, Program.variable(20))), -2);
    }

    private static void depth(Due due) {
        for (int head : new int[] {1, 5, 6}) {
            due.same("in 20 others", Program.define(new ScriptLedger(0), Program.repeat(head, 20, Program.nil())), 0);
            due.same("in 21 others", Program.define(new ScriptLedger(0), Program.repeat(head, 21, Program.nil())), -2);
        }
        due.same("in 20 others by first terms", Program.define(new ScriptLedger(0), applied(20, true)), 0);
        due.same("in 21 others by first terms", Program.define(new ScriptLedger(0), applied(21, true)), -2);
        due.same("in 20 others by second terms", Program.define(new ScriptLedger(0), applied(20, false)), 0);
        due.same("in 21 others by second terms", Program.define(new ScriptLedger(0), applied(21, false)), -2);
        int[] mixed = Program.lambda(Program.delay(Program.force(Program.repeat(1, 17, Program.nil()))));
        due.same("in 20 others of many kinds", Program.define(new ScriptLedger(0), mixed), 0);
        due.same("in 21 others of many kinds", Program.define(new ScriptLedger(0), Program.delay(mixed)), -2);
        due.same("as deep as the draft", Program.define(new ScriptLedger(0), Program.repeat(6, 47, Program.nil())), -2);
        due.same("twice 20 deep is not 40 deep", Program.define(new ScriptLedger(0),
            Program.apply(Program.repeat(5, 19, Program.nil()), Program.repeat(5, 19, Program.nil()))), 0);
        due.same("20 more in the second branch is too deep", Program.define(new ScriptLedger(0),
            Program.apply(Program.repeat(5, 19, Program.nil()), Program.repeat(5, 20, Program.nil()))), -2);
    }

    private static int[] applied(int times, boolean first) {
        int[] whole = Program.nil();
        for (int i = 0; i < times; i++) {
            whole = first ? Program.apply(whole, Program.nil()) : Program.apply(Program.nil(), whole);
        }
        return whole;
    }
}
