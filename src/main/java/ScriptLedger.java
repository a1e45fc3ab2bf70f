/**
 * A ledger of outputs that hold coins and tokens and are locked by keys or by small programs;
 * programs are read from bytes and evaluated step by step within a budget; a transaction is
 * judged in two phases, and blocks can be taken back.
 *
 * <p>All rows are made with the object and used again, so that no later call makes an object.
 */
public final class ScriptLedger {
    private static final int NONE = -1;

    private static final int MOST_SCRIPTS = 6;
    private static final int MOST_BYTES = 48;
    private static final int MOST_OUTPUTS = 48;
    private static final int MOST_INPUTS = 3;
    private static final int MOST_NEW_OUTPUTS = 3;
    private static final int MOST_AMOUNT = 1000000;
    private static final int MOST_BUDGET = 99;
    private static final int MOST_HEIGHT = 40;
    private static final int MOST_TAKEN_BACK = 4;

    private static final int KEYS = 4;
    private static final int ALL_SIGNERS = 15;
    private static final int ASSETS = 3;
    private static final int COIN = 0;

    private static final int ACCEPTED = 0;
    private static final int SCRIPT_DISAGREES = 1;
    private static final int NO_INPUT = 2;
    private static final int INPUT_MISSING = 3;
    private static final int OUTSIDE_INTERVAL = 4;
    private static final int FEE_TOO_SMALL = 5;
    private static final int UNBALANCED = 6;
    private static final int UNSIGNED = 7;
    private static final int SCRIPT_UNDEFINED = 8;
    private static final int NOT_GUARANTEED = 9;
    private static final int TOO_MANY_OUTPUTS = 10;

    private static final int CONTEXT_SIZE = 10;
    private static final int CONTEXT_OF_ASSET = 8;

    private final Draft draft;
    private final Machine machine;
    private final Ledger ledger;
    private final Transaction transaction;
    private final int[] context;
    private final int[] emptyContext;

    public ScriptLedger(int coins) {
        draft = new Draft();
        machine = new Machine();
        ledger = new Ledger(coins);
        transaction = new Transaction();
        context = new int[CONTEXT_SIZE];
        emptyContext = new int[0];
    }

    public boolean type(long bytes, int n) {
        if (n < 1 || n > 8 || draft.size + n > MOST_BYTES) {
            return false;
        }
        draft.append(bytes, n);
        return true;
    }

    public int define() {
        int script = machine.scripts.read(draft.bytes, draft.size);
        draft.size = 0;
        return script;
    }

    public int run(int script, int first, int second, int budget) {
        if (!machine.scripts.has(script) || budget < 0 || budget > MOST_BUDGET) {
            return NONE;
        }
        machine.evaluate(script, first, second, emptyContext, budget);
        return machine.outcome;
    }

    public int result(int what) {
        if (machine.outcome == NONE) {
            return NONE;
        }
        switch (what) {
            case 0:
                return machine.outcome;
            case 1:
                return machine.steps;
            case 2:
                return machine.resultKind;
            case 3:
                return machine.resultNumber;
            default:
                return NONE;
        }
    }

    public void begin() {
        transaction.clear();
    }

    public boolean spend(int output, int redeemer) {
        if (transaction.inputCount >= MOST_INPUTS || output < 0 || transaction.hasInput(output)) {
            return false;
        }
        transaction.addInput(output, redeemer);
        return true;
    }

    public boolean give(int lock, int datum, int coin, int first, int second) {
        if (!transaction.gifts.hasRoomFor(1) || lock < 0 || lock >= KEYS + MOST_SCRIPTS) {
            return false;
        }
        if (!isAmount(coin) || !isAmount(first) || !isAmount(second)) {
            return false;
        }
        transaction.gifts.add(lock, datum, coin, first, second);
        return true;
    }

    public boolean mint(int asset, int amount, int redeemer) {
        if (asset <= COIN || asset >= ASSETS || amount < -MOST_AMOUNT || amount > MOST_AMOUNT) {
            return false;
        }
        transaction.minted[asset] = amount;
        transaction.mintRedeemers[asset] = redeemer;
        return true;
    }

    public boolean terms(int fee, int from, int to, int signers, int budget) {
        if (!isAmount(fee) || signers < 0 || signers > ALL_SIGNERS) {
            return false;
        }
        if (budget < 0 || budget > MOST_BUDGET) {
            return false;
        }
        transaction.agree(fee, from, to, signers, budget);
        return true;
    }

    public boolean guarantee(int output) {
        if (output < 0) {
            return false;
        }
        transaction.guarantee = output;
        return true;
    }

    public int submit() {
        int answer = firstFault();
        if (answer == ACCEPTED) {
            if (scriptsAgree()) {
                carryOut();
            } else {
                ledger.seize(transaction.guarantee);
                answer = SCRIPT_DISAGREES;
            }
        }
        transaction.clear();
        return answer;
    }

    public int block() {
        if (ledger.height >= MOST_HEIGHT) {
            return NONE;
        }
        ledger.grow();
        return ledger.height;
    }

    public int rollback(int k) {
        if (k < 0 || k > MOST_TAKEN_BACK || k > ledger.height) {
            return NONE;
        }
        ledger.takeBackTo(ledger.height - k);
        return ledger.row.size;
    }

    public int outputs() {
        return ledger.row.size;
    }

    public int about(int output, int what) {
        if (!ledger.has(output)) {
            return NONE;
        }
        switch (what) {
            case 0:
            case 1:
            case 2:
                return ledger.row.amountOf(output, what);
            case 3:
                return ledger.row.locks[output];
            case 4:
                return ledger.row.data[output];
            case 5:
                return ledger.isUnspent(output) ? 0 : 1;
            default:
                return NONE;
        }
    }

    public int total(int asset) {
        if (asset < 0 || asset >= ASSETS) {
            return NONE;
        }
        return ledger.sumUnspent(asset);
    }

    public int pot() {
        return ledger.pot;
    }

    public int height() {
        return ledger.height;
    }

    private static boolean isAmount(int amount) {
        return amount >= 0 && amount <= MOST_AMOUNT;
    }

    /** The first phase: what is wrong without any script being run, or ACCEPTED. */
    private int firstFault() {
        if (transaction.inputCount == 0) {
            return NO_INPUT;
        }
        if (!inputsAreUnspent()) {
            return INPUT_MISSING;
        }
        if (ledger.height < transaction.from || ledger.height > transaction.to) {
            return OUTSIDE_INTERVAL;
        }
        if (transaction.fee < transaction.leastFee()) {
            return FEE_TOO_SMALL;
        }
        if (!isBalanced()) {
            return UNBALANCED;
        }
        if (!keysHaveSigned()) {
            return UNSIGNED;
        }
        if (!scriptsAreDefined()) {
            return SCRIPT_UNDEFINED;
        }
        if (needsScript() && !isGuaranteed()) {
            return NOT_GUARANTEED;
        }
        if (!ledger.row.hasRoomFor(transaction.gifts.size)) {
            return TOO_MANY_OUTPUTS;
        }
        return ACCEPTED;
    }

    private boolean inputsAreUnspent() {
        for (int i = 0; i < transaction.inputCount; i++) {
            if (!ledger.isUnspent(transaction.inputs[i])) {
                return false;
            }
        }
        return true;
    }

    private boolean isBalanced() {
        for (int asset = 0; asset < ASSETS; asset++) {
            int comes = sumOfInputs(asset) + transaction.minted[asset];
            int goes = transaction.gifts.sum(asset) + (asset == COIN ? transaction.fee : 0);
            if (comes != goes) {
                return false;
            }
        }
        return true;
    }

    private int sumOfInputs(int asset) {
        int sum = 0;
        for (int i = 0; i < transaction.inputCount; i++) {
            sum += ledger.row.amountOf(transaction.inputs[i], asset);
        }
        return sum;
    }

    private boolean keysHaveSigned() {
        for (int i = 0; i < transaction.inputCount; i++) {
            int lock = ledger.row.locks[transaction.inputs[i]];
            if (lock < KEYS && !transaction.isSignedBy(lock)) {
                return false;
            }
        }
        return true;
    }

    private boolean scriptsAreDefined() {
        for (int i = 0; i < transaction.inputCount; i++) {
            int lock = ledger.row.locks[transaction.inputs[i]];
            if (lock >= KEYS && !machine.scripts.has(lock - KEYS)) {
                return false;
            }
        }
        for (int asset = COIN + 1; asset < ASSETS; asset++) {
            if (transaction.minted[asset] != 0 && !machine.scripts.has(policyOf(asset))) {
                return false;
            }
        }
        return true;
    }

    private boolean needsScript() {
        for (int i = 0; i < transaction.inputCount; i++) {
            if (ledger.row.locks[transaction.inputs[i]] >= KEYS) {
                return true;
            }
        }
        for (int asset = COIN + 1; asset < ASSETS; asset++) {
            if (transaction.minted[asset] != 0) {
                return true;
            }
        }
        return false;
    }

    private static int policyOf(int asset) {
        return asset - 1;
    }

    private boolean isGuaranteed() {
        int output = transaction.guarantee;
        if (!ledger.isUnspent(output) || transaction.hasInput(output)) {
            return false;
        }
        if (!transaction.isSignedBy(ledger.row.locks[output])) {
            return false;
        }
        for (int asset = COIN + 1; asset < ASSETS; asset++) {
            if (ledger.row.amountOf(output, asset) != 0) {
                return false;
            }
        }
        return ledger.row.amountOf(output, COIN) >= 2 * transaction.fee;
    }

    /** The second phase: runs the scripts needed, until one does not answer true. */
    private boolean scriptsAgree() {
        fillContext();
        int left = transaction.budget;
        for (int i = 0; i < transaction.inputCount; i++) {
            int output = transaction.inputs[i];
            int lock = ledger.row.locks[output];
            if (lock >= KEYS) {
                context[0] = i;
                machine.evaluate(lock - KEYS, ledger.row.data[output], transaction.redeemers[i], context, left);
                if (machine.outcome != Machine.TRUE) {
                    return false;
                }
                left -= machine.steps;
            }
        }
        for (int asset = COIN + 1; asset < ASSETS; asset++) {
            int amount = transaction.minted[asset];
            if (amount != 0) {
                context[0] = CONTEXT_OF_ASSET + asset;
                machine.evaluate(policyOf(asset), amount, transaction.mintRedeemers[asset], context, left);
                if (machine.outcome != Machine.TRUE) {
                    return false;
                }
                left -= machine.steps;
            }
        }
        return true;
    }

    /** Fills in all but number 0, which says what the script is run for. */
    private void fillContext() {
        context[1] = transaction.from;
        context[2] = transaction.to;
        context[3] = transaction.fee;
        context[4] = transaction.signers;
        context[5] = transaction.inputCount;
        context[6] = transaction.gifts.size;
        context[7] = transaction.minted[1];
        context[8] = transaction.minted[2];
        context[9] = sumOfInputs(COIN);
    }

    private void carryOut() {
        for (int i = 0; i < transaction.inputCount; i++) {
            ledger.markSpent(transaction.inputs[i]);
        }
        for (int i = 0; i < transaction.gifts.size; i++) {
            ledger.addFrom(transaction.gifts, i);
        }
        ledger.pot += transaction.fee;
    }

    /** The bytes typed since the latest definition. */
    private static final class Draft {
        final int[] bytes = new int[MOST_BYTES];
        int size;

        void append(long typed, int n) {
            for (int i = n - 1; i >= 0 && size < MOST_BYTES; i--) {
                bytes[size] = (int) (typed >> (8 * i)) & 255;
                size++;
            }
        }
    }

    /** The scripts as their bytes; a term is known by the place of its first byte. */
    private static final class Scripts {
        static final int VARIABLE = 0;
        static final int LAMBDA = 1;
        static final int APPLY = 2;
        static final int INTEGER = 3;
        static final int BUILTIN = 4;
        static final int DELAY = 5;
        static final int FORCE = 6;
        static final int ERROR = 7;
        static final int NIL = 8;

        static final int INTEGER_ZERO = 128;

        private static final int LAST_BYTE = 255;
        private static final int LAST_BUILTIN = 10;
        private static final int MOST_AROUND = 20;
        private static final int ALL_TAKEN = -1;
        private static final int MALFORMED = -2;

        final int[] bytes = new int[MOST_SCRIPTS * MOST_BYTES];
        /** For the place of an APPLY, that of its second term: it can't be told from the bytes in one look. */
        final int[] seconds = new int[MOST_SCRIPTS * MOST_BYTES];
        int count;

        boolean has(int script) {
            return script >= 0 && script < count;
        }

        int startOf(int script) {
            return script * MOST_BYTES;
        }

        /** Makes the bytes the next script: its number, or why there is none. */
        int read(int[] typed, int size) {
            if (count >= MOST_SCRIPTS) {
                return ALL_TAKEN;
            }
            int start = startOf(count);
            int end = start + size;
            for (int i = 0; i < size; i++) {
                bytes[start + i] = typed[i];
            }
            if (behindTerm(bytes, seconds, start, end, 0, 0) != end) {
                return MALFORMED;
            }
            count++;
            return count - 1;
        }

        /** The place behind the term that begins at a place, or MALFORMED; notes where second terms begin. */
        private static int behindTerm(int[] bytes, int[] seconds, int place, int end, int lambdas, int termsAround) {
            // A broken first term of an APPLY hands on MALFORMED as the place of the second one.
            if (place < 0 || place >= end || termsAround > MOST_AROUND) {
                return MALFORMED;
            }
            switch (bytes[place]) {
                case VARIABLE:
                    return behindByte(bytes, place + 1, end, lambdas - 1);
                case INTEGER:
                    return behindByte(bytes, place + 1, end, LAST_BYTE);
                case BUILTIN:
                    return behindByte(bytes, place + 1, end, LAST_BUILTIN);
                case LAMBDA:
                    return behindTerm(bytes, seconds, place + 1, end, lambdas + 1, termsAround + 1);
                case DELAY:
                case FORCE:
                    return behindTerm(bytes, seconds, place + 1, end, lambdas, termsAround + 1);
                case APPLY:
                    seconds[place] = behindTerm(bytes, seconds, place + 1, end, lambdas, termsAround + 1);
                    return behindTerm(bytes, seconds, seconds[place], end, lambdas, termsAround + 1);
                case ERROR:
                case NIL:
                    return place + 1;
                default:
                    return MALFORMED;
            }
        }

        private static int behindByte(int[] bytes, int place, int end, int most) {
            return place < end && bytes[place] <= most ? place + 1 : MALFORMED;
        }
    }

    /**
     * The values of one run, each in a cell. A chain holds values with the latest one first:
     * those around a term, or the arguments that a builtin has taken.
     */
    private static final class Values {
        static final int INTEGER = 0;
        static final int BOOLEAN = 1;
        static final int LIST = 2;
        static final int FUNCTION_OF_LAMBDA = 3;
        static final int FUNCTION_OF_DELAY = 4;
        static final int FUNCTION_OF_BUILTIN = 5;
        static final int CHAIN = 6;

        /** Cell 0 is the empty list in every run, and also the end of every chain. */
        static final int EMPTY = 0;

        /** A step makes at most three cells, and a run has 99 steps, three applications and a context. */
        private static final int CELLS = 512;

        final int[] kinds = new int[CELLS];
        /** An integer, 1 for true, a list's first one, a body's place, a builtin's number, a chain's value. */
        final int[] firsts = new int[CELLS];
        /** The rest of a list or chain, the values around a body, the arguments of a builtin. */
        final int[] seconds = new int[CELLS];
        /** How many are in a list, or how many arguments a builtin has. */
        final int[] sizes = new int[CELLS];
        private int used;

        void clear() {
            used = 0;
            make(LIST, EMPTY, EMPTY, 0);
        }

        int make(int kind, int first, int second, int size) {
            if (used >= CELLS) {
                return EMPTY;
            }
            kinds[used] = kind;
            firsts[used] = first;
            seconds[used] = second;
            sizes[used] = size;
            used++;
            return used - 1;
        }

        int makePlain(int kind, int number) {
            return make(kind, number, EMPTY, 0);
        }

        int makeList(int first, int rest) {
            return make(LIST, first, rest, sizes[rest] + 1);
        }

        int inChain(int chain, int number) {
            int rest = chain;
            for (int i = 0; i < number; i++) {
                rest = seconds[rest];
            }
            return firsts[rest];
        }
    }

    /**
     * Evaluates scripts with a stack of its own in place of recursion: a term that is begun inside
     * another leaves a frame that says what its value is for.
     */
    private static final class Machine {
        static final int TRUE = 0;
        private static final int OTHER = 1;
        private static final int FAILED = 2;
        private static final int OUT = 3;

        private static final int AT_TERM = 0;
        private static final int AT_VALUE = 1;
        private static final int AT_APPLICATION = 2;
        private static final int AT_BUILTIN = 3;
        private static final int STOPPED = 4;

        private static final int FOR_FUNCTION = 0;
        private static final int FOR_ARGUMENT = 1;
        private static final int FOR_FORCE = 2;
        private static final int FOR_GIVEN_ARGUMENT = 3;

        private static final int SUBTRACT = 1;
        private static final int MULTIPLY = 2;
        private static final int DIVIDE = 3;
        private static final int EQUAL = 4;
        private static final int LESS = 5;
        private static final int IF = 6;
        private static final int CONS = 7;
        private static final int HEAD = 8;
        private static final int TAIL = 9;
        private static final int[] ARGUMENTS = {2, 2, 2, 2, 2, 2, 3, 2, 1, 1, 1};
        private static final int[] COSTS = {1, 1, 3, 3, 1, 1, 1, 1, 1, 1, 1};

        /** A step leaves at most one frame, and three are there at first. */
        private static final int FRAMES = 128;
        /** Each step begins a term or a builtin, each other move takes a frame or follows one that did. */
        private static final int MOST_MOVES = 2000;

        final Scripts scripts = new Scripts();
        private final Values values = new Values();
        private final int[] frameKinds = new int[FRAMES];
        private final int[] frameFirsts = new int[FRAMES];
        private final int[] frameSeconds = new int[FRAMES];
        private int frames;
        private int mode;
        private int place;
        private int around;
        private int value;
        private int argument;
        private int budget;
        int steps;
        int outcome = NONE;
        int resultKind;
        int resultNumber;

        /** Runs a script that is there, with two integers and a list of integers. */
        void evaluate(int script, int first, int second, int[] third, int mostSteps) {
            prepare(scripts.startOf(script), mostSteps);
            push(FOR_GIVEN_ARGUMENT, listOf(third), 0);
            push(FOR_GIVEN_ARGUMENT, values.makePlain(Values.INTEGER, second), 0);
            push(FOR_GIVEN_ARGUMENT, values.makePlain(Values.INTEGER, first), 0);
            for (int moves = 0; moves < MOST_MOVES && mode != STOPPED; moves++) {
                switch (mode) {
                    case AT_TERM:
                        beginTerm();
                        break;
                    case AT_VALUE:
                        handOnValue();
                        break;
                    case AT_APPLICATION:
                        apply();
                        break;
                    default:
                        doBuiltin();
                        break;
                }
            }
            if (mode != STOPPED) {
                stop(OUT);
            }
        }

        private void prepare(int start, int mostSteps) {
            values.clear();
            frames = 0;
            steps = 0;
            budget = mostSteps;
            goTo(start, Values.EMPTY);
        }

        private int listOf(int[] integers) {
            int list = Values.EMPTY;
            for (int i = integers.length - 1; i >= 0; i--) {
                list = values.makeList(values.makePlain(Values.INTEGER, integers[i]), list);
            }
            return list;
        }

        private void beginTerm() {
            if (!pay(1)) {
                return;
            }
            int next = place + 1;
            switch (scripts.bytes[place]) {
                case Scripts.VARIABLE:
                    found(values.inChain(around, scripts.bytes[next]));
                    break;
                case Scripts.LAMBDA:
                    found(values.make(Values.FUNCTION_OF_LAMBDA, next, around, 0));
                    break;
                case Scripts.APPLY:
                    push(FOR_FUNCTION, scripts.seconds[place], around);
                    goTo(next, around);
                    break;
                case Scripts.INTEGER:
                    found(values.makePlain(Values.INTEGER, scripts.bytes[next] - Scripts.INTEGER_ZERO));
                    break;
                case Scripts.BUILTIN:
                    found(values.makePlain(Values.FUNCTION_OF_BUILTIN, scripts.bytes[next]));
                    break;
                case Scripts.DELAY:
                    found(values.make(Values.FUNCTION_OF_DELAY, next, around, 0));
                    break;
                case Scripts.FORCE:
                    push(FOR_FORCE, 0, 0);
                    goTo(next, around);
                    break;
                case Scripts.NIL:
                    found(Values.EMPTY);
                    break;
                default:
                    stop(FAILED);
                    break;
            }
        }

        private void handOnValue() {
            if (frames == 0) {
                finish();
                return;
            }
            frames--;
            switch (frameKinds[frames]) {
                case FOR_FUNCTION:
                    goTo(frameFirsts[frames], frameSeconds[frames]);
                    push(FOR_ARGUMENT, value, 0);
                    break;
                case FOR_ARGUMENT:
                    argument = value;
                    value = frameFirsts[frames];
                    mode = AT_APPLICATION;
                    break;
                case FOR_GIVEN_ARGUMENT:
                    argument = frameFirsts[frames];
                    mode = AT_APPLICATION;
                    break;
                default:
                    force();
                    break;
            }
        }

        private void force() {
            if (values.kinds[value] == Values.FUNCTION_OF_DELAY) {
                goTo(values.firsts[value], values.seconds[value]);
            } else {
                stop(FAILED);
            }
        }

        /** Applies the value to the argument. */
        private void apply() {
            if (values.kinds[value] == Values.FUNCTION_OF_LAMBDA) {
                goTo(values.firsts[value], values.make(Values.CHAIN, argument, values.seconds[value], 0));
            } else if (values.kinds[value] == Values.FUNCTION_OF_BUILTIN) {
                takeArgument();
            } else {
                stop(FAILED);
            }
        }

        private void takeArgument() {
            int builtin = values.firsts[value];
            int taken = values.sizes[value] + 1;
            int chain = values.make(Values.CHAIN, argument, values.seconds[value], 0);
            value = values.make(Values.FUNCTION_OF_BUILTIN, builtin, chain, taken);
            mode = taken < ARGUMENTS[builtin] ? AT_VALUE : AT_BUILTIN;
        }

        /** Does the builtin that is the value and has all its arguments; it is paid even if it fails. */
        private void doBuiltin() {
            int builtin = values.firsts[value];
            int chain = values.seconds[value];
            if (!pay(COSTS[builtin])) {
                return;
            }
            int last = values.inChain(chain, 0);
            if (builtin <= LESS) {
                reckon(builtin, values.inChain(chain, 1), last);
            } else if (builtin == IF) {
                choose(values.inChain(chain, 2), values.inChain(chain, 1), last);
            } else if (builtin == CONS) {
                putInFront(values.inChain(chain, 1), last);
            } else {
                lookInto(builtin, last);
            }
        }

        private void reckon(int builtin, int left, int right) {
            if (values.kinds[left] != Values.INTEGER || values.kinds[right] != Values.INTEGER) {
                stop(FAILED);
                return;
            }
            int a = values.firsts[left];
            int b = values.firsts[right];
            if (builtin == DIVIDE && b == 0) {
                stop(FAILED);
            } else if (builtin == EQUAL) {
                found(values.makePlain(Values.BOOLEAN, a == b ? 1 : 0));
            } else if (builtin == LESS) {
                found(values.makePlain(Values.BOOLEAN, a < b ? 1 : 0));
            } else {
                found(values.makePlain(Values.INTEGER, reckoned(builtin, a, b)));
            }
        }

        private static int reckoned(int builtin, int a, int b) {
            switch (builtin) {
                case SUBTRACT:
                    return a - b;
                case MULTIPLY:
                    return a * b;
                case DIVIDE:
                    return b == 0 ? 0 : a / b;
                default:
                    return a + b;
            }
        }

        private void choose(int condition, int whenTrue, int otherwise) {
            if (values.kinds[condition] != Values.BOOLEAN) {
                stop(FAILED);
                return;
            }
            found(values.firsts[condition] == 1 ? whenTrue : otherwise);
        }

        private void putInFront(int first, int list) {
            int kind = values.kinds[first];
            if ((kind != Values.INTEGER && kind != Values.LIST) || values.kinds[list] != Values.LIST) {
                stop(FAILED);
                return;
            }
            found(values.makeList(first, list));
        }

        /** HEAD, TAIL or EMPTY. */
        private void lookInto(int builtin, int list) {
            boolean isEmpty = values.sizes[list] == 0;
            boolean needsOne = builtin == HEAD || builtin == TAIL;
            if (values.kinds[list] != Values.LIST || (needsOne && isEmpty)) {
                stop(FAILED);
            } else if (builtin == HEAD) {
                found(values.firsts[list]);
            } else if (builtin == TAIL) {
                found(values.seconds[list]);
            } else {
                found(values.makePlain(Values.BOOLEAN, isEmpty ? 1 : 0));
            }
        }

        private boolean pay(int cost) {
            if (steps + cost > budget) {
                steps = budget;
                stop(OUT);
                return false;
            }
            steps += cost;
            return true;
        }

        private void push(int kind, int first, int second) {
            if (frames >= FRAMES) {
                stop(OUT);
                return;
            }
            frameKinds[frames] = kind;
            frameFirsts[frames] = first;
            frameSeconds[frames] = second;
            frames++;
        }

        private void goTo(int term, int valuesAround) {
            place = term;
            around = valuesAround;
            mode = AT_TERM;
        }

        private void found(int what) {
            value = what;
            mode = AT_VALUE;
        }

        private void stop(int why) {
            outcome = why;
            resultKind = NONE;
            resultNumber = 0;
            mode = STOPPED;
        }

        /** Keeps what the value is: the cells are used again by the next run. */
        private void finish() {
            int kind = values.kinds[value];
            boolean isTrue = kind == Values.BOOLEAN && values.firsts[value] == 1;
            outcome = isTrue ? TRUE : OTHER;
            resultKind = Math.min(kind, Values.FUNCTION_OF_LAMBDA);
            resultNumber = 0;
            if (kind == Values.INTEGER || kind == Values.BOOLEAN) {
                resultNumber = values.firsts[value];
            } else if (kind == Values.LIST) {
                resultNumber = values.sizes[value];
            }
            mode = STOPPED;
        }
    }

    /** Outputs one after the other, whether they are in the ledger or still in a transaction. */
    private static final class OutputRow {
        final int[] locks;
        final int[] data;
        private final int[] amounts;
        int size;

        OutputRow(int room) {
            locks = new int[room];
            data = new int[room];
            amounts = new int[room * ASSETS];
        }

        boolean hasRoomFor(int more) {
            return size + more <= locks.length;
        }

        void add(int lock, int datum, int coin, int first, int second) {
            if (!hasRoomFor(1)) {
                return;
            }
            locks[size] = lock;
            data[size] = datum;
            amounts[size * ASSETS] = coin;
            amounts[size * ASSETS + 1] = first;
            amounts[size * ASSETS + 2] = second;
            size++;
        }

        int amountOf(int output, int asset) {
            return amounts[output * ASSETS + asset];
        }

        int sum(int asset) {
            int sum = 0;
            for (int i = 0; i < size; i++) {
                sum += amountOf(i, asset);
            }
            return sum;
        }
    }

    /** The outputs, the pot and the height, with what is needed to go back to an earlier height. */
    private static final class Ledger {
        private static final int FIRST_OUTPUTS = 2;
        private static final int FIRST_COIN = 500;
        private static final int MORE_COIN_BELOW = 1000;
        private static final int UNSPENT = -1;

        final OutputRow row = new OutputRow(MOST_OUTPUTS);
        /** The height at which an output was spent: going back to that or a lower one undoes it. */
        private final int[] spentAt = new int[MOST_OUTPUTS];
        private final int[] sizeAt = new int[MOST_HEIGHT + 1];
        private final int[] potAt = new int[MOST_HEIGHT + 1];
        int pot;
        int height;

        Ledger(int coins) {
            int coin = FIRST_COIN + Math.max(coins % MORE_COIN_BELOW, 0);
            for (int key = 0; key < FIRST_OUTPUTS; key++) {
                row.add(key, 0, coin, 0, 0);
                spentAt[key] = UNSPENT;
            }
            sizeAt[0] = row.size;
        }

        boolean has(int output) {
            return output >= 0 && output < row.size;
        }

        boolean isUnspent(int output) {
            return has(output) && spentAt[output] == UNSPENT;
        }

        void markSpent(int output) {
            if (has(output)) {
                spentAt[output] = height;
            }
        }

        void addFrom(OutputRow other, int i) {
            if (!row.hasRoomFor(1)) {
                return;
            }
            spentAt[row.size] = UNSPENT;
            row.add(other.locks[i], other.data[i], other.amountOf(i, 0), other.amountOf(i, 1), other.amountOf(i, 2));
        }

        /** Spends a guarantee into the pot. */
        void seize(int output) {
            if (has(output)) {
                markSpent(output);
                pot += row.amountOf(output, COIN);
            }
        }

        int sumUnspent(int asset) {
            int sum = 0;
            for (int i = 0; i < row.size; i++) {
                if (isUnspent(i)) {
                    sum += row.amountOf(i, asset);
                }
            }
            return sum;
        }

        void grow() {
            if (height >= MOST_HEIGHT) {
                return;
            }
            height++;
            sizeAt[height] = row.size;
            potAt[height] = pot;
        }

        void takeBackTo(int earlier) {
            height = earlier;
            row.size = sizeAt[earlier];
            pot = potAt[earlier];
            for (int i = 0; i < row.size; i++) {
                if (spentAt[i] >= earlier) {
                    spentAt[i] = UNSPENT;
                }
            }
        }
    }

    /** The transaction that is being made. */
    private static final class Transaction {
        private static final int BASE_FEE = 5;
        private static final int STEPS_FOR_A_COIN = 8;

        final int[] inputs = new int[MOST_INPUTS];
        final int[] redeemers = new int[MOST_INPUTS];
        int inputCount;
        final OutputRow gifts = new OutputRow(MOST_NEW_OUTPUTS);
        /** By asset; that of coin is always 0. */
        final int[] minted = new int[ASSETS];
        final int[] mintRedeemers = new int[ASSETS];
        int fee;
        int from;
        int to;
        int signers;
        int budget;
        int guarantee;

        Transaction() {
            clear();
        }

        void clear() {
            inputCount = 0;
            gifts.size = 0;
            for (int asset = 0; asset < ASSETS; asset++) {
                minted[asset] = 0;
                mintRedeemers[asset] = 0;
            }
            agree(0, 0, MOST_HEIGHT, 0, 0);
            guarantee = NONE;
        }

        void agree(int newFee, int newFrom, int newTo, int newSigners, int newBudget) {
            fee = newFee;
            from = newFrom;
            to = newTo;
            signers = newSigners;
            budget = newBudget;
        }

        boolean hasInput(int output) {
            for (int i = 0; i < inputCount; i++) {
                if (inputs[i] == output) {
                    return true;
                }
            }
            return false;
        }

        void addInput(int output, int redeemer) {
            if (inputCount >= MOST_INPUTS) {
                return;
            }
            inputs[inputCount] = output;
            redeemers[inputCount] = redeemer;
            inputCount++;
        }

        int leastFee() {
            return BASE_FEE + inputCount + gifts.size + budget / STEPS_FOR_A_COIN;
        }

        boolean isSignedBy(int lock) {
            return lock < KEYS && (signers >> lock & 1) == 1;
        }
    }
}
