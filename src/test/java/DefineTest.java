import java.util.Arrays;

/** Promise 3: define, and what "Terms" says of scripts and of malformed drafts. */
public final class DefineTest {
    private static final Due DUE = new Due();

    private static final int[][] TERMS = {
        {7}, {8}, {3, 0}, {3, 255}, {4, 0}, {4, 10}, {1, 0, 0}, {5, 8}, {6, 7}, {2, 7, 8}, {2, 2, 7, 8, 7},
        {2, 7, 2, 8, 7}, {1, 2, 0, 0, 5, 0, 0}, {2, 1, 0, 0, 3, 2}, {2, 3, 2, 4, 2}, {2, 2, 4, 6, 3, 7, 8},
        {1, 1, 1, 2, 0, 2, 0, 1}};

    public static void main(String[] args) {
        sixScripts();
        emptyAfterwards();
        wholeTerms();
        emptyDraft();
        bytesMissing();
        bytesMissingBehindTheLast();
        bytesLeftOver();
        otherBytes();
        builtins();
        variables();
        variablesBesideLambdas();
        depth();
        depthOfBranches();
        DUE.end();
    }

    private static void define(String name, int[] draft, int answer) {
        ScriptLedger x = new ScriptLedger(0);
        DUE.same("define of " + name + " " + Arrays.toString(draft), Program.define(x, draft), answer);
        DUE.same("run of " + name, x.run(0, 0, 0, 0), answer == 0 ? 3 : -1);
        DUE.same("the draft is empty afterwards", Program.define(x, 8), answer == 0 ? 1 : 0);
    }

    /** "numbered 0 .. 5 in the order in which they are defined"; "-1 when there are 6 already, else -2". */
    private static void sixScripts() {
        ScriptLedger x = new ScriptLedger(0);
        for (int script = 0; script < 6; script++) {
            DUE.same("malformed", Program.define(x, 9), -2);
            DUE.same("the number", Program.define(x, Program.script(Program.integer(10 + script))), script);
        }
        DUE.same("a seventh", Program.define(x, Program.nil()), -1);
        DUE.same("a malformed seventh", Program.define(x, 9), -1);
        DUE.same("an empty seventh", x.define(), -1);
        for (int script = 0; script < 6; script++) {
            DUE.same("run of " + script, x.run(script, 0, 0, 99), 1);
            DUE.same("the value of " + script, x.result(3), 10 + script);
        }
        DUE.same("run of 6", x.run(6, 0, 0, 99), -1);
    }

    /** "In each case the draft is empty afterwards": 48 bytes have room then. */
    private static void emptyAfterwards() {
        ScriptLedger x = new ScriptLedger(0);
        for (int script = 0; script < 6; script++) {
            DUE.yes("48 bytes", Program.type(x, new int[48]));
            DUE.same("a full malformed one", x.define(), -2);
            DUE.same("an empty one behind it", x.define(), -2);
            DUE.same("a good one", Program.define(x, Program.integer(script)), script);
            DUE.same("an empty one behind it", x.define(), script < 5 ? -2 : -1);
        }
        DUE.yes("48 bytes", Program.type(x, new int[48]));
        DUE.same("a full seventh", x.define(), -1);
        DUE.yes("48 bytes behind it", Program.type(x, new int[48]));
    }

    private static void wholeTerms() {
        for (int[] term : TERMS) {
            define("a whole term", term, 0);
        }
    }

    /** "-2 when the draft is malformed (an empty one is)". */
    private static void emptyDraft() {
        define("nothing", new int[0], -2);
    }

    /** "bytes missing": no beginning of a term is a term. */
    private static void bytesMissing() {
        for (int[] term : TERMS) {
            for (int size = 1; size < term.length; size++) {
                define("a beginning", Arrays.copyOf(term, size), -2);
            }
        }
        for (int head : new int[] {0, 1, 2, 3, 4, 5, 6}) {
            define("a head alone", new int[] {head}, -2);
            define("a head alone in a lambda", new int[] {1, head}, -2);
        }
        define("48 heads", Program.repeat(6, 47, new int[] {6}), -2);
    }

    /** The same with 48 bytes, as each of the six scripts: what would be behind the 48th byte is not read. */
    private static void bytesMissingBehindTheLast() {
        int[] applied = Program.error();
        for (int i = 0; i < 14; i++) {
            applied = Program.apply(applied, Program.integer(i));
        }
        int[][] lacking = {
            Program.join(Program.repeat(2, 4, applied), new int[] {8}),
            Program.join(Program.repeat(1, 3, new int[] {2}), Program.join(applied, new int[] {0})),
            Program.join(Program.repeat(1, 3, new int[] {2}), Program.join(applied, new int[] {3})),
            Program.join(Program.repeat(1, 3, new int[] {2}), Program.join(applied, new int[] {4}))};
        for (int script = 0; script < 6; script++) {
            ScriptLedger x = new ScriptLedger(0);
            for (int i = 0; i < script; i++) {
                Program.define(x, Program.nil());
            }
            for (int[] draft : lacking) {
                DUE.same("bytes of the draft", draft.length, 48);
                DUE.same("lacking as script " + script, Program.define(x, draft), -2);
            }
            int[] whole = Program.join(Program.repeat(1, 2, new int[] {2}), Program.join(applied, new int[] {0, 1}));
            DUE.same("bytes of the draft", whole.length, 48);
            DUE.same("whole as script " + script, Program.define(x, whole), script);
        }
    }

    /** "or left over": a term and one byte more is none, whatever that byte is. */
    private static void bytesLeftOver() {
        for (int[] term : TERMS) {
            for (int more : new int[] {0, 1, 2, 3, 4, 5, 6, 7, 8, 9, 255}) {
                define("a term and a byte", Program.join(term, new int[] {more}), -2);
            }
        }
    }

    /** "another byte": 9 and all above are no terms, alone and inside others. */
    private static void otherBytes() {
        for (int head = 9; head <= 255; head++) {
            define("another byte", new int[] {head}, -2);
            define("another byte before a term", new int[] {head, 8}, -2);
        }
        for (int head : new int[] {9, 10, 128, 255}) {
            define("in a lambda", new int[] {1, head}, -2);
            define("in a delay", new int[] {5, head}, -2);
            define("in a force", new int[] {6, head}, -2);
            define("first in an apply", new int[] {2, head, 8}, -2);
            define("second in an apply", new int[] {2, 8, head}, -2);
        }
    }

    /** "a number of a builtin above 10". */
    private static void builtins() {
        for (int builtin = 0; builtin <= 255; builtin++) {
            define("a builtin", new int[] {4, builtin}, builtin <= 10 ? 0 : -2);
        }
        define("11 first in an apply", new int[] {2, 4, 11, 8}, -2);
        define("11 second in an apply", new int[] {2, 8, 4, 11}, -2);
        define("an integer has no such limit", new int[] {3, 11}, 0);
    }

    /** "when a variable's k is not below the number of lambdas in whose bodies it stands". */
    private static void variables() {
        for (int lambdas = 0; lambdas <= 20; lambdas++) {
            for (int k = 0; k < lambdas; k++) {
                define("k below the lambdas", Program.repeat(1, lambdas, Program.variable(k)), 0);
            }
            define("k just as many", Program.repeat(1, lambdas, Program.variable(lambdas)), -2);
            define("k of 128", Program.repeat(1, lambdas, Program.variable(128)), -2);
            define("k of 255", Program.repeat(1, lambdas, Program.variable(255)), -2);
        }
    }

    private static void variablesBesideLambdas() {
        int[] zero = Program.variable(0);
        int[] one = Program.variable(1);
        define("in a delay", Program.delay(zero), -2);
        define("in a force", Program.force(zero), -2);
        define("in an apply", Program.apply(Program.nil(), zero), -2);
        define("in an apply, first", Program.apply(zero, Program.nil()), -2);
        define("behind a lambda", Program.apply(Program.lambda(zero), zero), -2);
        define("before a lambda", Program.apply(zero, Program.lambda(zero)), -2);
        define("behind a lambda in a lambda", Program.lambda(Program.apply(Program.lambda(zero), one)), -2);
        define("before a lambda in a lambda", Program.lambda(Program.apply(one, Program.lambda(zero))), -2);
        define("both in their lambdas", Program.lambda(Program.apply(Program.lambda(one), zero)), 0);
        define("both in their lambdas", Program.lambda(Program.apply(zero, Program.lambda(one))), 0);
        define("in a delay in a lambda", Program.lambda(Program.delay(Program.force(zero))), 0);
    }

    /** "or when a term stands in more than 20 others". */
    private static void depth() {
        int[][] innermost = {{7}, {8}, {3, 5}, {4, 5}};
        for (int[] term : innermost) {
            for (int head : new int[] {1, 5, 6}) {
                define("in 19 others", Program.repeat(head, 19, term), 0);
                define("in 20 others", Program.repeat(head, 20, term), 0);
                define("in 21 others", Program.repeat(head, 21, term), -2);
                define("in 22 others", Program.repeat(head, 22, term), -2);
            }
        }
        define("a variable in 20 others", Program.repeat(1, 20, Program.variable(0)), 0);
        define("a variable in 21 others", Program.repeat(1, 21, Program.variable(0)), -2);
        define("in as many as the draft has room for", Program.repeat(6, 47, Program.nil()), -2);
        int[] mixed = Program.lambda(Program.delay(Program.force(Program.repeat(1, 17, Program.nil()))));
        define("in 20 others of many kinds", mixed, 0);
        define("in 21 others of many kinds", Program.delay(mixed), -2);
    }

    private static void depthOfBranches() {
        define("in 20 others by first terms", applied(20, true), 0);
        define("in 21 others by first terms", applied(21, true), -2);
        define("in 20 others by second terms", applied(20, false), 0);
        define("in 21 others by second terms", applied(21, false), -2);
        int[] deep = Program.repeat(5, 19, Program.nil());
        int[] deeper = Program.repeat(5, 20, Program.nil());
        define("both terms in 20 others", Program.apply(deep, deep), 0);
        define("the first term in 21 others", Program.apply(deeper, deep), -2);
        define("the second term in 21 others", Program.apply(deep, deeper), -2);
    }

    private static int[] applied(int times, boolean first) {
        int[] whole = Program.nil();
        for (int i = 0; i < times; i++) {
            whole = first ? Program.apply(whole, Program.nil()) : Program.apply(Program.nil(), whole);
        }
        return whole;
    }
}
