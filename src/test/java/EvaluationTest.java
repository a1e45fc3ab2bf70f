/** What "Terms" says of evaluation and of builtins, seen through promises 4 and 5. */
public final class EvaluationTest {
    private static final int TRUE = 0;
    private static final int OTHER = 1;
    private static final int FAILED = 2;
    private static final int OUT = 3;
    private static final int NO_VALUE = -1;
    private static final int INTEGER = 0;
    private static final int BOOLEAN = 1;
    private static final int LIST = 2;
    private static final int FUNCTION = 3;

    /** The three lambdas of a script cost a step each, before its body begins. */
    private static final int LAMBDAS = 3;

    private static final int FIRST = 11;
    private static final int SECOND = 22;

    private static final Due DUE = new Due();

    public static void main(String[] args) {
        constants();
        variables();
        functions();
        delays();
        order();
        arithmetic();
        comparisons();
        choice();
        lists();
        wrongKinds();
        argumentsOfBuiltins();
        valuesAround();
        threeSteps();
        allSteps();
        growing();
        withoutLambdas();
        DUE.end();
    }

    /** The body's own steps, without those of the lambdas around it. */
    private static void due(String name, int[] body, int outcome, int steps, int kind, int number) {
        dueOf(name, body, FIRST, SECOND, new int[] {outcome, LAMBDAS + steps, kind, number});
    }

    private static void fails(String name, int[] body, int steps) {
        due(name, body, FAILED, steps, NO_VALUE, 0);
    }

    private static void dueOf(String name, int[] body, int first, int second, int[] results) {
        dueOfWhole(name, Program.script(body), first, second, 99, results);
    }

    private static void dueOfWhole(String name, int[] term, int first, int second, int budget, int[] results) {
        ScriptLedger x = new ScriptLedger(0);
        DUE.same(name + ": define", Program.define(x, term), 0);
        DUE.same(name + ": run", x.run(0, first, second, budget), results[0]);
        for (int what = 0; what < results.length; what++) {
            DUE.same(name + ": result " + what, x.result(what), results[what]);
        }
        if (budget == 99) {
            withinEveryBudget(name, x, first, second, results);
        }
    }

    /**
     * "As soon as the steps would be more than the budget the run is OUT, with as many steps as the budget":
     * the results are those within 99 steps.
     */
    private static void withinEveryBudget(String name, ScriptLedger x, int first, int second, int[] results) {
        for (int budget = 0; budget <= 99; budget++) {
            boolean isOut = results[0] == OUT || budget < results[1];
            DUE.same(name + " within " + budget, x.run(0, first, second, budget), isOut ? OUT : results[0]);
            DUE.same(name + " within " + budget + ": steps", x.result(1), isOut ? budget : results[1]);
            DUE.same(name + " within " + budget + ": kind", x.result(2), isOut ? NO_VALUE : results[2]);
            DUE.same(name + " within " + budget + ": number", x.result(3), isOut ? 0 : results[3]);
        }
    }

    private static void constants() {
        due("-128", Program.integer(-128), OTHER, 1, INTEGER, -128);
        due("0", Program.integer(0), OTHER, 1, INTEGER, 0);
        due("127", Program.integer(127), OTHER, 1, INTEGER, 127);
        due("nil", Program.nil(), OTHER, 1, LIST, 0);
        due("builtin", Program.builtin(Program.EMPTY), OTHER, 1, FUNCTION, 0);
        due("lambda", Program.lambda(Program.error()), OTHER, 1, FUNCTION, 0);
        due("delay", Program.delay(Program.error()), OTHER, 1, FUNCTION, 0);
        fails("error", Program.error(), 1);
        due("true", Program.yes(), TRUE, 6, BOOLEAN, 1);
        due("false", Program.no(), OTHER, 6, BOOLEAN, 0);
    }

    private static void variables() {
        due("first", Program.variable(2), OTHER, 1, INTEGER, FIRST);
        due("second", Program.variable(1), OTHER, 1, INTEGER, SECOND);
        due("third", Program.variable(0), OTHER, 1, LIST, 0);
        due("an inner lambda's own", Program.apply(Program.lambda(Program.variable(0)), Program.integer(5)),
            OTHER, 4, INTEGER, 5);
        due("from an inner lambda", Program.apply(Program.lambda(Program.variable(3)), Program.integer(5)),
            OTHER, 4, INTEGER, FIRST);
    }

    private static void functions() {
        int[] firstOfTwo = Program.lambda(Program.lambda(Program.variable(1)));
        due("first of two", Program.apply(firstOfTwo, Program.integer(5), Program.integer(6)), OTHER, 7, INTEGER, 5);
        int[] secondOfTwo = Program.lambda(Program.lambda(Program.variable(0)));
        due("second of two", Program.apply(secondOfTwo, Program.integer(5), Program.integer(6)), OTHER, 7, INTEGER, 6);
        // A function keeps the values around its lambda, not those around the place where it is applied.
        int[] keepsFirst = Program.lambda(Program.variable(3));
        int[] appliesIt = Program.lambda(Program.apply(Program.lambda(Program.apply(Program.variable(1),
            Program.integer(1))), Program.integer(2)));
        due("values around the lambda", Program.apply(appliesIt, keepsFirst), OTHER, 10, INTEGER, FIRST);
        due("a function of a function", Program.apply(Program.lambda(Program.lambda(Program.variable(1))),
            Program.integer(9)), OTHER, 4, FUNCTION, 0);
        int[] addsToBoth = Program.lambda(Program.builtin(Program.ADD,
            Program.apply(Program.variable(0), Program.integer(1)),
            Program.apply(Program.variable(0), Program.integer(2))));
        due("a builtin with an argument, used twice",
            Program.apply(addsToBoth, Program.builtin(Program.ADD, Program.integer(10))), OTHER, 17, INTEGER, 23);
        fails("an integer applied", Program.apply(Program.integer(1), Program.integer(2)), 3);
        fails("a list applied", Program.apply(Program.nil(), Program.integer(2)), 3);
        fails("a boolean applied", Program.apply(Program.yes(), Program.integer(2)), 8);
        fails("a delay applied", Program.apply(Program.delay(Program.nil()), Program.integer(2)), 3);
    }

    private static void delays() {
        due("forced", Program.force(Program.delay(Program.integer(5))), OTHER, 3, INTEGER, 5);
        due("forced twice", Program.force(Program.force(Program.delay(Program.delay(Program.integer(5))))),
            OTHER, 5, INTEGER, 5);
        due("forced once", Program.force(Program.delay(Program.delay(Program.integer(5)))), OTHER, 3, FUNCTION, 0);
        int[] delayed = Program.apply(Program.lambda(Program.delay(Program.variable(0))), Program.integer(7));
        due("values around the delay", Program.force(delayed), OTHER, 6, INTEGER, 7);
        int[] forcedElsewhere = Program.lambda(Program.apply(Program.lambda(Program.force(Program.variable(1))),
            Program.integer(9)));
        due("values around the delay, not around the force", Program.apply(forcedElsewhere, delayed),
            OTHER, 12, INTEGER, 7);
        due("the values come back after a force", Program.builtin(Program.ADD, Program.force(delayed),
            Program.variable(2)), OTHER, 11, INTEGER, 7 + FIRST);
        fails("an integer forced", Program.force(Program.integer(1)), 2);
        fails("a list forced", Program.force(Program.nil()), 2);
        fails("a lambda forced", Program.force(Program.lambda(Program.nil())), 2);
        fails("a builtin forced", Program.force(Program.builtin(Program.ADD)), 2);
        fails("an error delayed and forced", Program.force(Program.delay(Program.error())), 3);
    }

    private static void order() {
        int budget = 99 - LAMBDAS;
        fails("the first term first", Program.apply(Program.error(), Program.endless()), 2);
        due("the first term first, endless", Program.apply(Program.endless(), Program.error()),
            OUT, budget, NO_VALUE, 0);
        due("the second term before an application that fails",
            Program.apply(Program.integer(1), Program.endless()), OUT, budget, NO_VALUE, 0);
        fails("a second term that fails, though it is not used",
            Program.apply(Program.lambda(Program.nil()), Program.error()), 3);
        fails("both branches of IF are evaluated",
            Program.builtin(Program.IF, Program.yes(), Program.integer(1), Program.error()), 12);
    }

    private static void reckoned(int builtin, int a, int b, int number) {
        int cost = builtin == Program.MULTIPLY || builtin == Program.DIVIDE ? 3 : 1;
        int[] body = Program.builtin(builtin, Program.variable(2), Program.variable(1));
        dueOf("builtin " + builtin + " of " + a + " and " + b, body, a, b,
            new int[] {OTHER, LAMBDAS + 5 + cost, INTEGER, number});
    }

    private static void arithmetic() {
        int most = Integer.MAX_VALUE;
        int least = Integer.MIN_VALUE;
        reckoned(Program.ADD, 3, 4, 7);
        reckoned(Program.ADD, most, 1, least);
        reckoned(Program.ADD, least, -1, most);
        reckoned(Program.SUBTRACT, 3, 4, -1);
        reckoned(Program.SUBTRACT, least, 1, most);
        reckoned(Program.SUBTRACT, 0, least, least);
        reckoned(Program.MULTIPLY, -3, 4, -12);
        reckoned(Program.MULTIPLY, 65536, 65536, 0);
        reckoned(Program.MULTIPLY, most, most, 1);
        reckoned(Program.MULTIPLY, least, -1, least);
        reckoned(Program.DIVIDE, 7, 2, 3);
        reckoned(Program.DIVIDE, -7, 2, -3);
        reckoned(Program.DIVIDE, 7, -2, -3);
        reckoned(Program.DIVIDE, 0, 5, 0);
        reckoned(Program.DIVIDE, 9, 1, 9);
        reckoned(Program.DIVIDE, least, -1, least);
        int[] divided = Program.builtin(Program.DIVIDE, Program.variable(2), Program.variable(1));
        dueOf("5 / 0", divided, 5, 0, new int[] {FAILED, LAMBDAS + 8, NO_VALUE, 0});
        dueOf("0 / 0", divided, 0, 0, new int[] {FAILED, LAMBDAS + 8, NO_VALUE, 0});
    }

    private static void compared(int builtin, int a, int b, boolean holds) {
        int[] body = Program.builtin(builtin, Program.variable(2), Program.variable(1));
        dueOf("builtin " + builtin + " of " + a + " and " + b, body, a, b,
            new int[] {holds ? TRUE : OTHER, LAMBDAS + 6, BOOLEAN, holds ? 1 : 0});
    }

    private static void comparisons() {
        int most = Integer.MAX_VALUE;
        int least = Integer.MIN_VALUE;
        compared(Program.EQUAL, 5, 5, true);
        compared(Program.EQUAL, 5, 6, false);
        compared(Program.EQUAL, 1000000, 1000000, true);
        compared(Program.EQUAL, most, least, false);
        compared(Program.LESS, 5, 6, true);
        compared(Program.LESS, 5, 5, false);
        compared(Program.LESS, 6, 5, false);
        compared(Program.LESS, least, most, true);
        compared(Program.LESS, most, least, false);
    }

    private static void choice() {
        int[] one = Program.integer(1);
        int[] two = Program.integer(2);
        due("IF true", Program.builtin(Program.IF, Program.yes(), one, two), OTHER, 13, INTEGER, 1);
        due("IF false", Program.builtin(Program.IF, Program.no(), one, two), OTHER, 13, INTEGER, 2);
        due("IF of a boolean", Program.builtin(Program.IF, Program.no(), one, Program.yes()), TRUE, 18, BOOLEAN, 1);
        due("IF of a list", Program.builtin(Program.IF, Program.yes(), Program.nil(), two), OTHER, 13, LIST, 0);
        int[] chosen = Program.builtin(Program.IF, Program.yes(), Program.builtin(Program.ADD), Program.error());
        fails("IF with a failing branch", chosen, 12);
        int[] function = Program.builtin(Program.IF, Program.no(), Program.nil(), Program.builtin(Program.ADD));
        due("IF of a builtin that is then applied", Program.apply(function, one, two), OTHER, 18, INTEGER, 3);
        int[] delayed = Program.builtin(Program.IF, Program.yes(), Program.delay(one), Program.delay(Program.error()));
        due("IF of delays that is then forced", Program.force(delayed), OTHER, 15, INTEGER, 1);
        due("IF with two arguments", Program.builtin(Program.IF, one, two), OTHER, 5, FUNCTION, 0);
    }

    private static void lists() {
        int[] one = Program.integer(1);
        int[] two = Program.integer(2);
        int[] list = Program.builtin(Program.CONS, one, Program.builtin(Program.CONS, two, Program.nil()));
        due("a list of two", list, OTHER, 11, LIST, 2);
        due("HEAD", Program.builtin(Program.HEAD, list), OTHER, 14, INTEGER, 1);
        due("TAIL", Program.builtin(Program.TAIL, list), OTHER, 14, LIST, 1);
        due("HEAD of TAIL", Program.builtin(Program.HEAD, Program.builtin(Program.TAIL, list)), OTHER, 17, INTEGER, 2);
        due("EMPTY of a list", Program.builtin(Program.EMPTY, list), OTHER, 14, BOOLEAN, 0);
        due("EMPTY of nil", Program.builtin(Program.EMPTY, Program.nil()), TRUE, 4, BOOLEAN, 1);
        due("EMPTY of the third value", Program.builtin(Program.EMPTY, Program.variable(0)), TRUE, 4, BOOLEAN, 1);
        int[] single = Program.builtin(Program.CONS, two, Program.nil());
        due("HEAD of one", Program.builtin(Program.HEAD, single), OTHER, 9, INTEGER, 2);
        due("TAIL of one", Program.builtin(Program.TAIL, single), OTHER, 9, LIST, 0);
        due("EMPTY of one", Program.builtin(Program.EMPTY, single), OTHER, 9, BOOLEAN, 0);
        due("EMPTY of the TAIL of one", Program.builtin(Program.EMPTY, Program.builtin(Program.TAIL, single)),
            TRUE, 12, BOOLEAN, 1);
        fails("HEAD of nil", Program.builtin(Program.HEAD, Program.nil()), 4);
        fails("TAIL of nil", Program.builtin(Program.TAIL, Program.nil()), 4);
        fails("HEAD of the TAIL of one", Program.builtin(Program.HEAD, Program.builtin(Program.TAIL, single)), 12);
        fails("TAIL of the TAIL of one", Program.builtin(Program.TAIL, Program.builtin(Program.TAIL, single)), 12);
        int[] listOfList = Program.builtin(Program.CONS, list, Program.nil());
        due("a list in a list", listOfList, OTHER, 16, LIST, 1);
        due("HEAD of a list of lists", Program.builtin(Program.HEAD, listOfList), OTHER, 19, LIST, 2);
        due("a list with nil in it", Program.builtin(Program.CONS, Program.nil(), Program.nil()), OTHER, 6, LIST, 1);
        due("a list with a list in front", Program.builtin(Program.CONS, list, list), OTHER, 26, LIST, 3);
    }

    private static void wrongKinds() {
        int[] one = Program.integer(1);
        int[][] notIntegers = {Program.nil(), Program.lambda(Program.nil()), Program.delay(Program.nil()),
            Program.builtin(Program.ADD)};
        for (int builtin = Program.ADD; builtin <= Program.LESS; builtin++) {
            int cost = builtin == Program.MULTIPLY || builtin == Program.DIVIDE ? 3 : 1;
            for (int[] other : notIntegers) {
                fails(builtin + " with a wrong second", Program.builtin(builtin, one, other), 5 + cost);
                fails(builtin + " with a wrong first", Program.builtin(builtin, other, one), 5 + cost);
                due(builtin + " with a wrong first alone", Program.builtin(builtin, other), OTHER, 3, FUNCTION, 0);
            }
            fails(builtin + " with a boolean", Program.builtin(builtin, one, Program.yes()), 10 + cost);
            fails(builtin + " with a boolean first", Program.builtin(builtin, Program.yes(), one), 10 + cost);
            fails(builtin + " of nil and 0", Program.builtin(builtin, Program.nil(), Program.integer(0)), 5 + cost);
        }
        fails("IF of 1", Program.builtin(Program.IF, one, one, one), 8);
        fails("IF of 0", Program.builtin(Program.IF, Program.integer(0), one, one), 8);
        fails("IF of nil", Program.builtin(Program.IF, Program.nil(), one, one), 8);
        fails("IF of a function", Program.builtin(Program.IF, Program.delay(one), one, one), 8);
        fails("CONS of a boolean", Program.builtin(Program.CONS, Program.yes(), Program.nil()), 11);
        fails("CONS of a lambda", Program.builtin(Program.CONS, Program.lambda(one), Program.nil()), 6);
        fails("CONS of a delay", Program.builtin(Program.CONS, Program.delay(one), Program.nil()), 6);
        fails("CONS of a builtin", Program.builtin(Program.CONS, Program.builtin(0), Program.nil()), 6);
        fails("CONS onto an integer", Program.builtin(Program.CONS, one, one), 6);
        fails("CONS onto a boolean", Program.builtin(Program.CONS, one, Program.yes()), 11);
        fails("CONS onto a function", Program.builtin(Program.CONS, one, Program.builtin(0)), 6);
        for (int builtin = Program.HEAD; builtin <= Program.EMPTY; builtin++) {
            fails(builtin + " of an integer", Program.builtin(builtin, one), 4);
            fails(builtin + " of 0", Program.builtin(builtin, Program.integer(0)), 4);
            fails(builtin + " of a boolean", Program.builtin(builtin, Program.yes()), 9);
            fails(builtin + " of a delay", Program.builtin(builtin, Program.delay(one)), 4);
            fails(builtin + " of a lambda", Program.builtin(builtin, Program.lambda(one)), 4);
            fails(builtin + " of a builtin", Program.builtin(builtin, Program.builtin(0)), 4);
            fails(builtin + " of a builtin with an argument", Program.builtin(builtin, Program.builtin(0, one)), 6);
        }
    }

    /** "a builtin takes it as its next argument, and when it has all of them it is DONE". */
    private static void argumentsOfBuiltins() {
        int[] one = Program.integer(1);
        int[] list = Program.nil();
        int[][] sums = {{Program.ADD, 2}, {Program.SUBTRACT, 0}, {Program.MULTIPLY, 1}, {Program.DIVIDE, 1}};
        for (int[] sum : sums) {
            int cost = sum[0] == Program.MULTIPLY || sum[0] == Program.DIVIDE ? 3 : 1;
            due(sum[0] + " of none", Program.builtin(sum[0]), OTHER, 1, FUNCTION, 0);
            due(sum[0] + " of one", Program.builtin(sum[0], one), OTHER, 3, FUNCTION, 0);
            due(sum[0] + " of two", Program.builtin(sum[0], one, one), OTHER, 5 + cost, INTEGER, sum[1]);
            fails(sum[0] + " of three", Program.builtin(sum[0], one, one, one), 7 + cost);
        }
        for (int builtin = Program.EQUAL; builtin <= Program.LESS; builtin++) {
            boolean isSame = builtin == Program.EQUAL;
            due(builtin + " of one", Program.builtin(builtin, one), OTHER, 3, FUNCTION, 0);
            due(builtin + " of two", Program.builtin(builtin, one, one),
                isSame ? TRUE : OTHER, 6, BOOLEAN, isSame ? 1 : 0);
            fails(builtin + " of three", Program.builtin(builtin, one, one, one), 8);
        }
        due("IF of one", Program.builtin(Program.IF, one), OTHER, 3, FUNCTION, 0);
        due("IF of two", Program.builtin(Program.IF, one, one), OTHER, 5, FUNCTION, 0);
        due("IF of three", Program.builtin(Program.IF, Program.yes(), one, one), OTHER, 13, INTEGER, 1);
        due("CONS of one", Program.builtin(Program.CONS, one), OTHER, 3, FUNCTION, 0);
        due("CONS of two", Program.builtin(Program.CONS, one, list), OTHER, 6, LIST, 1);
        fails("CONS of three", Program.builtin(Program.CONS, one, list, list), 8);
        due("HEAD of none", Program.builtin(Program.HEAD), OTHER, 1, FUNCTION, 0);
        due("TAIL of none", Program.builtin(Program.TAIL), OTHER, 1, FUNCTION, 0);
        due("EMPTY of none", Program.builtin(Program.EMPTY), OTHER, 1, FUNCTION, 0);
        fails("EMPTY of two", Program.builtin(Program.EMPTY, list, list), 6);
    }

    /** "number k of the values around it, from 0", "the innermost first": eleven of them, the most that has room. */
    private static void valuesAround() {
        for (int k = 0; k <= 10; k++) {
            int[] whole = Program.repeat(1, 11, Program.variable(k));
            int[] given = {FIRST, SECOND};
            for (int i = 0; i < 8; i++) {
                whole = Program.apply(whole, Program.integer(10 - i));
            }
            int[] results = {OTHER, 28, INTEGER, k >= 3 ? k : 0};
            if (k == 0) {
                results[2] = LIST;
            } else if (k <= 2) {
                results[3] = given[2 - k];
            }
            dueOfWhole("value " + k + " of eleven", whole, FIRST, SECOND, 99, results);
        }
    }

    /** "(that step, or the first that would be too many of a builtin's, and what it would have done, not done)". */
    private static void threeSteps() {
        int[] product = Program.script(Program.builtin(Program.MULTIPLY, Program.integer(6), Program.integer(7)));
        for (int budget = 0; budget < 11; budget++) {
            dueOfWhole("6 * 7 in " + budget, product, 0, 0, budget, new int[] {OUT, budget, NO_VALUE, 0});
        }
        dueOfWhole("6 * 7 in 11", product, 0, 0, 11, new int[] {OTHER, 11, INTEGER, 42});
        dueOfWhole("6 * 7 in 12", product, 0, 0, 12, new int[] {OTHER, 11, INTEGER, 42});
        int[] quotient = Program.script(Program.builtin(Program.DIVIDE, Program.integer(6), Program.integer(0)));
        for (int budget = 8; budget < 11; budget++) {
            dueOfWhole("6 / 0 in " + budget, quotient, 0, 0, budget, new int[] {OUT, budget, NO_VALUE, 0});
        }
        dueOfWhole("6 / 0 in 11", quotient, 0, 0, 11, new int[] {FAILED, 11, NO_VALUE, 0});
        int[] wrongKind = Program.script(Program.builtin(Program.MULTIPLY, Program.integer(6), Program.nil()));
        dueOfWhole("6 * nil in 10", wrongKind, 0, 0, 10, new int[] {OUT, 10, NO_VALUE, 0});
        dueOfWhole("6 * nil in 11", wrongKind, 0, 0, 11, new int[] {FAILED, 11, NO_VALUE, 0});
        int[] sum = Program.script(Program.builtin(Program.ADD, Program.integer(6), Program.nil()));
        dueOfWhole("6 + nil in 8", sum, 0, 0, 8, new int[] {OUT, 8, NO_VALUE, 0});
        dueOfWhole("6 + nil in 9", sum, 0, 0, 9, new int[] {FAILED, 9, NO_VALUE, 0});
        dueOfWhole("error in 0", Program.error(), 0, 0, 0, new int[] {OUT, 0, NO_VALUE, 0});
        dueOfWhole("error in 1", Program.error(), 0, 0, 1, new int[] {FAILED, 1, NO_VALUE, 0});
    }

    /** A delayed product of four, forced three times; the two builtins join what comes of it. */
    private static int[] threeProducts(int outer, int inner, int[] product) {
        int[] forced = Program.force(Program.variable(0));
        int[] joined = Program.builtin(outer, Program.builtin(inner, forced, forced), forced);
        return Program.script(Program.apply(Program.lambda(joined), Program.delay(product)));
    }

    /** A budget of 99 is enough for 99 steps, and not for 100. */
    private static void allSteps() {
        int[] two = Program.integer(2);
        int[] product = Program.builtin(Program.MULTIPLY, Program.builtin(Program.MULTIPLY,
            Program.builtin(Program.MULTIPLY, two, two), two), two);
        int[] fourStepsMore = Program.force(Program.delay(Program.force(Program.delay(product))));
        int[] threeStepsMore = Program.apply(Program.lambda(product), Program.nil());
        dueOfWhole("98 steps", threeProducts(Program.ADD, Program.ADD, fourStepsMore), 0, 0, 99,
            new int[] {OTHER, 98, INTEGER, 48});
        dueOfWhole("99 steps", threeProducts(Program.MULTIPLY, Program.MULTIPLY, threeStepsMore), 0, 0, 99,
            new int[] {OTHER, 99, INTEGER, 4096});
        dueOfWhole("100 steps", threeProducts(Program.MULTIPLY, Program.ADD, fourStepsMore), 0, 0, 99,
            new int[] {OUT, 99, NO_VALUE, 0});
    }

    private static void growing() {
        dueOfWhole("endless in 99", Program.endless(), 0, 0, 99, new int[] {OUT, 99, NO_VALUE, 0});
        // Every turn leaves a frame more, so the stack grows as long as there are steps.
        int[] itself = Program.apply(Program.variable(0), Program.variable(0));
        int[] grower = Program.lambda(Program.apply(Program.builtin(Program.HEAD), itself));
        dueOfWhole("a growing stack", Program.apply(grower, grower), 0, 0, 99, new int[] {OUT, 99, NO_VALUE, 0});
        int[] forces = Program.lambda(Program.force(Program.force(itself)));
        dueOfWhole("a stack of forces", Program.apply(forces, forces), 0, 0, 99, new int[] {OUT, 99, NO_VALUE, 0});
        int[] lists = Program.lambda(Program.lambda(Program.apply(Program.variable(1), Program.variable(1),
            Program.builtin(Program.CONS, Program.integer(1), Program.variable(0)))));
        dueOfWhole("a growing list", Program.apply(lists, lists, Program.nil()), 0, 0, 99,
            new int[] {OUT, 99, NO_VALUE, 0});
    }

    /** The three values are given to what the term becomes, whatever that is. */
    private static void withoutLambdas() {
        dueOfWhole("an integer", Program.integer(1), 0, 0, 99, new int[] {FAILED, 1, NO_VALUE, 0});
        dueOfWhole("one lambda", Program.lambda(Program.variable(0)), 4, 5, 99,
            new int[] {FAILED, 2, NO_VALUE, 0});
        dueOfWhole("two lambdas", Program.lambda(Program.lambda(Program.yes())), 4, 5, 99,
            new int[] {FAILED, 8, NO_VALUE, 0});
        dueOfWhole("four lambdas", Program.lambda(Program.script(Program.yes())), 4, 5, 99,
            new int[] {OTHER, 4, FUNCTION, 0});
        dueOfWhole("ADD takes two", Program.builtin(Program.ADD), 4, 5, 99, new int[] {FAILED, 2, NO_VALUE, 0});
        dueOfWhole("MULTIPLY in too little", Program.builtin(Program.MULTIPLY), 4, 5, 3,
            new int[] {OUT, 3, NO_VALUE, 0});
        dueOfWhole("IF of an integer", Program.builtin(Program.IF), 4, 5, 99, new int[] {FAILED, 2, NO_VALUE, 0});
        dueOfWhole("IF with one already", Program.builtin(Program.IF, Program.yes()), 4, 5, 99,
            new int[] {FAILED, 9, NO_VALUE, 0});
        dueOfWhole("IF as a body", Program.lambda(Program.builtin(Program.IF, Program.yes())), 4, 5, 99,
            new int[] {OTHER, 10, INTEGER, 5});
        dueOfWhole("CONS as a body", Program.lambda(Program.builtin(Program.CONS)), 4, 5, 99,
            new int[] {OTHER, 3, LIST, 1});
        dueOfWhole("a delay", Program.delay(Program.yes()), 4, 5, 99, new int[] {FAILED, 1, NO_VALUE, 0});
        dueOfWhole("a lambda forced at first", Program.force(Program.delay(Program.script(Program.variable(2)))),
            4, 5, 99, new int[] {OTHER, 6, INTEGER, 4});
    }
}
