import java.util.ArrayList;
import java.util.List;

/**
 * The document once more, written another way: terms are trees, evaluation is recursive, and every
 * height keeps a whole copy of what it began with. Tests compare its answers with those of the class.
 */
final class Model {
    private static final class Out extends RuntimeException {
        private static final long serialVersionUID = 1;
    }

    private static final class Failed extends RuntimeException {
        private static final long serialVersionUID = 1;
    }

    private record Term(int head, int number, Term first, Term second) {
    }

    private record Around(Object value, Around next) {
    }

    private record Closure(boolean isDelay, Term body, Around around) {
    }

    private record Partial(int builtin, List<Object> taken) {
    }

    private record Output(int[] amounts, int lock, int datum, boolean spent) {
    }

    private record State(List<Output> outputs, int pot) {
    }

    private final List<Integer> draft = new ArrayList<>();
    private final List<Term> scripts = new ArrayList<>();
    private final List<State> beginnings = new ArrayList<>();
    private List<Output> outputs = new ArrayList<>();
    private int pot;

    private int steps;
    private int budgetOfRun;
    private int outcome = -1;
    private Object value;

    private List<int[]> inputs;
    private List<Output> gifts;
    private int[] minted;
    private int[] mintRedeemers;
    private int[] terms;
    private int guarantee;

    private int readAt;

    Model(int coins) {
        int more = coins % 1000 > 0 ? coins % 1000 : 0;
        outputs.add(new Output(new int[] {500 + more, 0, 0}, 0, 0, false));
        outputs.add(new Output(new int[] {500 + more, 0, 0}, 1, 0, false));
        beginnings.add(new State(new ArrayList<>(outputs), 0));
        begin();
    }

    boolean type(long bytes, int n) {
        if (n < 1 || n > 8 || draft.size() + n > 48) {
            return false;
        }
        for (int i = n; i > 0; i--) {
            draft.add((int) (bytes >>> 8 * (i - 1) & 0xff));
        }
        return true;
    }

    int define() {
        List<Integer> bytes = new ArrayList<>(draft);
        draft.clear();
        if (scripts.size() == 6) {
            return -1;
        }
        try {
            readAt = 0;
            Term term = read(bytes, 0, 0);
            if (readAt != bytes.size()) {
                return -2;
            }
            scripts.add(term);
            return scripts.size() - 1;
        } catch (Failed malformed) {
            return -2;
        }
    }

    private int next(List<Integer> bytes) {
        if (readAt == bytes.size()) {
            throw new Failed();
        }
        return bytes.get(readAt++);
    }

    private Term read(List<Integer> bytes, int lambdas, int depth) {
        int head = next(bytes);
        if (head > 8 || depth > 20) {
            throw new Failed();
        }
        int number = head == 0 || head == 3 || head == 4 ? next(bytes) : 0;
        if (head == 0 && number >= lambdas || head == 4 && number > 10) {
            throw new Failed();
        }
        boolean hasBody = head == 1 || head == 2 || head == 5 || head == 6;
        Term first = hasBody ? read(bytes, head == 1 ? lambdas + 1 : lambdas, depth + 1) : null;
        Term second = head == 2 ? read(bytes, lambdas, depth + 1) : null;
        return new Term(head, number, first, second);
    }

    int run(int script, int first, int second, int budget) {
        if (script < 0 || script >= scripts.size() || budget < 0 || budget > 99) {
            return -1;
        }
        return evaluate(script, first, second, new ArrayList<>(), budget);
    }

    private int evaluate(int script, int first, int second, List<Object> third, int budget) {
        steps = 0;
        budgetOfRun = budget;
        value = null;
        try {
            Object found = eval(scripts.get(script), null);
            found = apply(found, first);
            found = apply(found, second);
            value = apply(found, third);
            outcome = Boolean.TRUE.equals(value) ? 0 : 1;
        } catch (Out out) {
            outcome = 3;
        } catch (Failed failed) {
            outcome = 2;
        }
        return outcome;
    }

    private void step() {
        if (steps == budgetOfRun) {
            throw new Out();
        }
        steps++;
    }

    private Object eval(Term term, Around around) {
        step();
        switch (term.head) {
            case 0: {
                Around at = around;
                for (int i = 0; i < term.number; i++) {
                    at = at.next;
                }
                return at.value;
            }
            case 1:
                return new Closure(false, term.first, around);
            case 2: {
                Object function = eval(term.first, around);
                return apply(function, eval(term.second, around));
            }
            case 3:
                return term.number - 128;
            case 4:
                return new Partial(term.number, new ArrayList<>());
            case 5:
                return new Closure(true, term.first, around);
            case 6:
                if (eval(term.first, around) instanceof Closure closure && closure.isDelay) {
                    return eval(closure.body, closure.around);
                }
                throw new Failed();
            case 7:
                throw new Failed();
            default:
                return new ArrayList<Object>();
        }
    }

    private Object apply(Object function, Object argument) {
        if (function instanceof Closure closure && !closure.isDelay) {
            return eval(closure.body, new Around(argument, closure.around));
        }
        if (function instanceof Partial partial) {
            List<Object> taken = new ArrayList<>(partial.taken);
            taken.add(argument);
            int needed = partial.builtin == 6 ? 3 : partial.builtin >= 8 ? 1 : 2;
            return taken.size() < needed ? new Partial(partial.builtin, taken) : done(partial.builtin, taken);
        }
        throw new Failed();
    }

    private Object done(int builtin, List<Object> taken) {
        step();
        if (builtin == 2 || builtin == 3) {
            step();
            step();
        }
        switch (builtin) {
            case 0:
                return integer(taken.get(0)) + integer(taken.get(1));
            case 1:
                return integer(taken.get(0)) - integer(taken.get(1));
            case 2:
                return integer(taken.get(0)) * integer(taken.get(1));
            case 3:
                if (integer(taken.get(1)) == 0) {
                    throw new Failed();
                }
                return integer(taken.get(0)) / integer(taken.get(1));
            case 4:
                return integer(taken.get(0)) == integer(taken.get(1));
            case 5:
                return integer(taken.get(0)) < integer(taken.get(1));
            case 6:
                if (taken.get(0) instanceof Boolean condition) {
                    return condition ? taken.get(1) : taken.get(2);
                }
                throw new Failed();
            case 7: {
                if (!(taken.get(0) instanceof Integer) && !(taken.get(0) instanceof List<?>)) {
                    throw new Failed();
                }
                List<Object> whole = new ArrayList<>(list(taken.get(1)));
                whole.add(0, taken.get(0));
                return whole;
            }
            case 8:
                return notEmpty(taken.get(0)).get(0);
            case 9: {
                List<?> whole = notEmpty(taken.get(0));
                return new ArrayList<Object>(whole.subList(1, whole.size()));
            }
            default:
                return list(taken.get(0)).isEmpty();
        }
    }

    private static int integer(Object what) {
        if (what instanceof Integer number) {
            return number;
        }
        throw new Failed();
    }

    private static List<?> list(Object what) {
        if (what instanceof List<?> whole) {
            return whole;
        }
        throw new Failed();
    }

    private static List<?> notEmpty(Object what) {
        if (list(what).isEmpty()) {
            throw new Failed();
        }
        return list(what);
    }

    int result(int what) {
        if (outcome < 0) {
            return -1;
        }
        switch (what) {
            case 0:
                return outcome;
            case 1:
                return steps;
            case 2:
                return value == null ? -1 : value instanceof Integer ? 0 : value instanceof Boolean ? 1
                    : value instanceof List<?> ? 2 : 3;
            case 3:
                return value instanceof Integer number ? number : value instanceof Boolean truth ? (truth ? 1 : 0)
                    : value instanceof List<?> whole ? whole.size() : 0;
            default:
                return -1;
        }
    }

    void begin() {
        inputs = new ArrayList<>();
        gifts = new ArrayList<>();
        minted = new int[3];
        mintRedeemers = new int[3];
        terms = new int[] {0, 0, 40, 0, 0};
        guarantee = -1;
    }

    boolean spend(int output, int redeemer) {
        if (inputs.size() == 3 || output < 0 || isInput(output)) {
            return false;
        }
        return inputs.add(new int[] {output, redeemer});
    }

    private boolean isInput(int output) {
        return inputs.stream().anyMatch(input -> input[0] == output);
    }

    boolean give(int lock, int datum, int coin, int first, int second) {
        for (int amount : new int[] {coin, first, second}) {
            if (amount < 0 || amount > 1_000_000) {
                return false;
            }
        }
        if (gifts.size() == 3 || lock < 0 || lock > 9) {
            return false;
        }
        return gifts.add(new Output(new int[] {coin, first, second}, lock, datum, false));
    }

    boolean mint(int asset, int amount, int redeemer) {
        if (asset != 1 && asset != 2 || amount < -1_000_000 || amount > 1_000_000) {
            return false;
        }
        minted[asset] = amount;
        mintRedeemers[asset] = redeemer;
        return true;
    }

    boolean terms(int fee, int from, int to, int signers, int budget) {
        if (fee < 0 || fee > 1_000_000 || signers < 0 || signers > 15 || budget < 0 || budget > 99) {
            return false;
        }
        terms = new int[] {fee, from, to, signers, budget};
        return true;
    }

    boolean guarantee(int output) {
        if (output >= 0) {
            guarantee = output;
        }
        return output >= 0;
    }

    int submit() {
        int answer = judge();
        if (answer == 0) {
            for (int[] input : inputs) {
                markSpent(input[0]);
            }
            outputs.addAll(gifts);
            pot += terms[0];
        } else if (answer == 1) {
            markSpent(guarantee);
            pot += outputs.get(guarantee).amounts[0];
        }
        begin();
        return answer;
    }

    private void markSpent(int output) {
        Output old = outputs.get(output);
        outputs.set(output, new Output(old.amounts, old.lock, old.datum, true));
    }

    private boolean isUnspent(int output) {
        return output >= 0 && output < outputs.size() && !outputs.get(output).spent;
    }

    private boolean isSigned(int lock) {
        return lock <= 3 && (terms[3] & 1 << lock) != 0;
    }

    private int judge() {
        if (inputs.isEmpty()) {
            return 2;
        }
        for (int[] input : inputs) {
            if (!isUnspent(input[0])) {
                return 3;
            }
        }
        if (height() < terms[1] || height() > terms[2]) {
            return 4;
        }
        if (terms[0] < 5 + inputs.size() + gifts.size() + terms[4] / 8) {
            return 5;
        }
        long[] open = {-terms[0], minted[1], minted[2]};
        List<int[]> runs = new ArrayList<>();
        boolean signed = true;
        for (int i = 0; i < inputs.size(); i++) {
            Output output = outputs.get(inputs.get(i)[0]);
            for (int asset = 0; asset < 3; asset++) {
                open[asset] += output.amounts[asset];
            }
            if (output.lock >= 4) {
                runs.add(new int[] {output.lock - 4, output.datum, inputs.get(i)[1], i});
            } else {
                signed &= isSigned(output.lock);
            }
        }
        for (Output gift : gifts) {
            for (int asset = 0; asset < 3; asset++) {
                open[asset] -= gift.amounts[asset];
            }
        }
        for (int asset = 1; asset < 3; asset++) {
            if (minted[asset] != 0) {
                runs.add(new int[] {asset - 1, minted[asset], mintRedeemers[asset], 8 + asset});
            }
        }
        if (open[0] != 0 || open[1] != 0 || open[2] != 0) {
            return 6;
        }
        if (!signed) {
            return 7;
        }
        return judgeScripts(runs);
    }

    private int judgeScripts(List<int[]> runs) {
        for (int[] each : runs) {
            if (each[0] >= scripts.size()) {
                return 8;
            }
        }
        if (!runs.isEmpty() && !isGuaranteed()) {
            return 9;
        }
        if (outputs.size() + gifts.size() > 48) {
            return 10;
        }
        int left = terms[4];
        int coin = inputs.stream().mapToInt(input -> outputs.get(input[0]).amounts[0]).sum();
        for (int[] each : runs) {
            List<Object> context = new ArrayList<>(List.of(each[3], terms[1], terms[2], terms[0], terms[3],
                inputs.size(), gifts.size(), minted[1], minted[2], coin));
            if (evaluate(each[0], each[1], each[2], context, left) != 0) {
                return 1;
            }
            left -= steps;
        }
        return 0;
    }

    private boolean isGuaranteed() {
        if (!isUnspent(guarantee) || isInput(guarantee)) {
            return false;
        }
        Output output = outputs.get(guarantee);
        return isSigned(output.lock) && output.amounts[1] == 0 && output.amounts[2] == 0
            && output.amounts[0] >= 2 * terms[0];
    }

    int block() {
        if (height() == 40) {
            return -1;
        }
        beginnings.add(new State(new ArrayList<>(outputs), pot));
        return height();
    }

    int rollback(int k) {
        if (k < 0 || k > 4 || k > height()) {
            return -1;
        }
        for (int i = 0; i < k; i++) {
            beginnings.remove(beginnings.size() - 1);
        }
        State state = beginnings.get(beginnings.size() - 1);
        outputs = new ArrayList<>(state.outputs);
        pot = state.pot;
        return outputs.size();
    }

    int outputs() {
        return outputs.size();
    }

    int about(int output, int what) {
        if (output < 0 || output >= outputs.size() || what < 0 || what > 5) {
            return -1;
        }
        Output about = outputs.get(output);
        return what < 3 ? about.amounts[what] : what == 3 ? about.lock : what == 4 ? about.datum : about.spent ? 1 : 0;
    }

    int total(int asset) {
        if (asset < 0 || asset > 2) {
            return -1;
        }
        return outputs.stream().filter(output -> !output.spent).mapToInt(output -> output.amounts[asset]).sum();
    }

    int pot() {
        return pot;
    }

    int height() {
        return beginnings.size() - 1;
    }
}
