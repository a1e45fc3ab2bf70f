/** Promises 4 and 5: run and result. */
public final class RunTest {
    public static void main(String[] args) {
        Due due = new Due();
        nothingRunYet(due);
        outcomes(due);
        kindsOfValues(due);
        noSuchScript(due);
        noSuchBudget(due);
        latest(due);
        nothingIsLeftOver(due);
        manyRuns(due);
        changesNothing(due);
        due.end();
    }

    private static void isResult(Due due, String name, ScriptLedger x, int... results) {
        for (int what = 0; what < results.length; what++) {
            due.same(name + ": result " + what, x.result(what), results[what]);
        }
        for (int what : new int[] {-1, 4, 5, Integer.MAX_VALUE, Integer.MIN_VALUE}) {
            due.same(name + ": result " + what, x.result(what), -1);
        }
    }

    private static void nothingRunYet(Due due) {
        ScriptLedger x = new ScriptLedger(0);
        isResult(due, "new", x, -1, -1, -1, -1);
        Program.define(x, Program.script(Program.yes()));
        isResult(due, "only defined", x, -1, -1, -1, -1);
        x.run(1, 0, 0, 99);
        isResult(due, "only refused", x, -1, -1, -1, -1);
    }

    private static void outcomes(Due due) {
        ScriptLedger x = new ScriptLedger(0);
        Program.define(x, Program.script(Program.builtin(Program.EQUAL, Program.variable(2), Program.variable(1))));
        Program.define(x, Program.script(Program.variable(2)));
        Program.define(x, Program.script(Program.error()));
        due.same("true", x.run(0, 7, 7, 99), 0);
        isResult(due, "true", x, 0, 9, 1, 1);
        due.same("false", x.run(0, 7, 8, 99), 1);
        isResult(due, "false", x, 1, 9, 1, 0);
        due.same("another value", x.run(1, 7, 8, 99), 1);
        isResult(due, "another value", x, 1, 4, 0, 7);
        due.same("1 is not true", x.run(1, 1, 1, 99), 1);
        isResult(due, "1 is not true", x, 1, 4, 0, 1);
        due.same("a number below 0", x.run(1, Integer.MIN_VALUE, 8, 99), 1);
        isResult(due, "a number below 0", x, 1, 4, 0, Integer.MIN_VALUE);
        due.same("failed", x.run(2, 7, 8, 99), 2);
        isResult(due, "failed", x, 2, 4, -1, 0);
        due.same("out", x.run(0, 7, 7, 8), 3);
        isResult(due, "out", x, 3, 8, -1, 0);
        due.same("just enough", x.run(0, 7, 7, 9), 0);
        isResult(due, "just enough", x, 0, 9, 1, 1);
        due.same("no steps at all", x.run(0, 7, 7, 0), 3);
        isResult(due, "no steps at all", x, 3, 0, -1, 0);
    }

    /** "2 its value: 0 an integer, 1 a boolean, 2 a list, 3 a function, -1 when it has none; 3 that integer, ..". */
    private static void kindsOfValues(Due due) {
        int[] one = Program.builtin(Program.CONS, Program.integer(5), Program.nil());
        int[] two = Program.builtin(Program.CONS, Program.integer(5), one);
        value(due, "0", Program.integer(0), 0, 0);
        value(due, "-1", Program.integer(-1), 0, -1);
        value(due, "true", Program.yes(), 1, 1);
        value(due, "false", Program.no(), 1, 0);
        value(due, "an empty list", Program.nil(), 2, 0);
        value(due, "a list of one", one, 2, 1);
        value(due, "a list of two", two, 2, 2);
        value(due, "a list of one list", Program.builtin(Program.CONS, two, Program.nil()), 2, 1);
        value(due, "a function of a lambda", Program.lambda(Program.integer(5)), 3, 0);
        value(due, "a function of a delay", Program.delay(Program.integer(5)), 3, 0);
        value(due, "a builtin", Program.builtin(Program.SUBTRACT), 3, 0);
        value(due, "a builtin with an argument", Program.builtin(Program.SUBTRACT, Program.integer(5)), 3, 0);
        value(due, "none, it failed", Program.error(), -1, 0);
        value(due, "none, it is out", Program.endless(), -1, 0);
    }

    private static void value(Due due, String name, int[] body, int kind, int number) {
        ScriptLedger x = new ScriptLedger(0);
        Program.define(x, Program.script(Program.integer(99)));
        Program.define(x, Program.script(body));
        x.run(0, 0, 0, 99);
        x.run(1, 0, 0, 99);
        due.same(name + ": its kind", x.result(2), kind);
        due.same(name + ": its number", x.result(3), number);
    }

    /** "-1 when there is no such script". */
    private static void noSuchScript(Due due) {
        ScriptLedger x = new ScriptLedger(0);
        for (int count = 0; count <= 6; count++) {
            for (int script : new int[] {-1, count, 6, 7, Integer.MAX_VALUE, Integer.MIN_VALUE}) {
                due.same(count + " scripts: run of " + script, x.run(script, 0, 0, 99), -1);
            }
            if (count > 0) {
                isResult(due, "what is refused is no run", x, 1, 4, 0, count);
            }
            if (count < 6) {
                due.same("define", Program.define(x, Program.script(Program.variable(1))), count);
                due.same("run of " + count, x.run(count, 0, count + 1, 99), 1);
            }
        }
    }

    /** "or budget is not 0 .. 99". */
    private static void noSuchBudget(Due due) {
        ScriptLedger x = new ScriptLedger(0);
        Program.define(x, Program.script(Program.variable(1)));
        due.same("run", x.run(0, 1, 33, 50), 1);
        for (int budget : new int[] {-1, 100, Integer.MAX_VALUE, Integer.MIN_VALUE}) {
            due.same("run with budget " + budget, x.run(0, 0, 0, budget), -1);
        }
        isResult(due, "what is refused is no run", x, 1, 4, 0, 33);
        due.same("budget 99", x.run(0, 1, 34, 99), 1);
        due.same("budget 0", x.run(0, 1, 34, 0), 3);
        due.same("budget -1 behind it", x.run(0, 1, 34, -1), -1);
        isResult(due, "what is refused is no run", x, 3, 0, -1, 0);
    }

    private static void latest(Due due) {
        ScriptLedger x = new ScriptLedger(0);
        for (int script = 0; script < 6; script++) {
            Program.define(x, Program.script(Program.integer(script)));
        }
        for (int script = 5; script >= 0; script--) {
            due.same("run", x.run(script, 0, 0, 99), 1);
            isResult(due, "script " + script, x, 1, 4, 0, script);
        }
    }

    /** A run that stops in the midst of terms, or had a number as its value, does not show in the next one. */
    private static void nothingIsLeftOver(Due due) {
        ScriptLedger x = new ScriptLedger(0);
        int[] openTerms = Program.repeat(6, 3, Program.builtin(Program.HEAD, Program.variable(0)));
        Program.define(x, Program.script(openTerms));
        Program.define(x, Program.script(Program.builtin(Program.ADD, Program.integer(1), Program.endless())));
        Program.define(x, Program.script(Program.yes()));
        Program.define(x, Program.script(Program.variable(2)));
        Program.define(x, Program.script(Program.builtin(Program.ADD)));
        due.same("failed inside", x.run(0, 0, 0, 99), 2);
        due.same("true behind it", x.run(2, 0, 0, 99), 0);
        isResult(due, "true behind it", x, 0, 9, 1, 1);
        due.same("out inside", x.run(1, 0, 0, 99), 3);
        due.same("true behind it", x.run(2, 0, 0, 99), 0);
        isResult(due, "true behind it", x, 0, 9, 1, 1);
        due.same("out before all values are taken", x.run(2, 0, 0, 1), 3);
        due.same("true behind it", x.run(2, 0, 0, 99), 0);
        due.same("a number", x.run(3, 77, 0, 99), 1);
        due.same("a function behind it", x.run(4, 0, 0, 99), 1);
        isResult(due, "a function behind it", x, 1, 4, 3, 0);
    }

    private static void manyRuns(Due due) {
        ScriptLedger x = new ScriptLedger(0);
        int[] grower = Program.lambda(Program.lambda(Program.apply(Program.variable(1), Program.variable(1),
            Program.builtin(Program.CONS, Program.integer(1), Program.variable(0)))));
        Program.define(x, Program.apply(grower, grower, Program.nil()));
        Program.define(x, Program.script(Program.builtin(Program.SUBTRACT, Program.variable(2), Program.variable(1))));
        for (int i = 0; i < 160; i++) {
            due.same("a long run", x.run(0, 0, 0, 99), 3);
            due.same("a short run", x.run(1, i, 5, 99), 1);
            due.same("its number", x.result(3), i - 5);
        }
    }

    private static void changesNothing(Due due) {
        ScriptLedger x = new ScriptLedger(0);
        Program.define(x, Program.script(Program.yes()));
        Program.type(x, 3);
        x.spend(0, 0);
        x.run(0, 0, 0, 99);
        due.same("the draft stays", Program.define(x, 4), 1);
        x.terms(6, 0, 40, 1, 0);
        due.same("the transaction stays", x.submit(), 6);
        due.same("the pot", x.pot(), 0);
        due.same("the outputs", x.outputs(), 2);
    }
}
