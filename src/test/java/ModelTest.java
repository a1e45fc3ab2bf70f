import java.util.ArrayList;
import java.util.List;
import java.util.Random;

/**
 * All promises: long runs of calls, made up from a fixed seed, on the class and on the model of it;
 * every answer must be the same.
 */
public final class ModelTest {
    private static final int RUNS = 10000;
    private static final int CALLS = 512;
    /** What the dearest act (a script typed byte by byte) and the questions at the end take. */
    private static final int LAST_CALLS = 120;

    private final Due due = new Due();
    private final int[] submitted = new int[11];
    private final int[] outcomes = new int[4];
    private Random random;
    private ScriptLedger x;
    private Model y;
    private int calls;
    /** In a thrifty run the fees are small and nothing is taken back, so that outputs become many. */
    private boolean thrifty;

    public static void main(String[] args) {
        ModelTest test = new ModelTest();
        for (int run = 0; run < RUNS; run++) {
            test.run(run);
        }
        test.everythingWasSeen();
        test.due.end();
    }

    private void everythingWasSeen() {
        for (int answer = 0; answer < submitted.length; answer++) {
            due.yes("submit answered " + answer + " at least once", submitted[answer] > 0);
        }
        for (int outcome = 0; outcome < outcomes.length; outcome++) {
            due.yes("run answered " + outcome + " at least once", outcomes[outcome] > 0);
        }
    }

    private void run(int seed) {
        random = new Random(seed);
        int coins = random.nextInt(4) == 0 ? random.nextInt() : random.nextInt(1000);
        x = new ScriptLedger(coins);
        y = new Model(coins);
        calls = 0;
        thrifty = random.nextInt(4) == 0;
        int early = random.nextInt(7);
        for (int i = 0; i < early; i++) {
            define();
        }
        while (calls < CALLS - LAST_CALLS) {
            act();
        }
        askAll();
    }

    private void same(String call, long got, long want) {
        calls++;
        if (got != want) {
            due.same("call " + calls + " of a run: " + call, got, want);
        }
    }

    private void same(String call, boolean got, boolean want) {
        same(call, got ? 1 : 0, want ? 1 : 0);
    }

    private void act() {
        int kind = random.nextInt(20);
        if (kind < 9) {
            transact();
        } else if (kind < 12) {
            runScript();
        } else if (kind < 13) {
            define();
        } else if (kind < 15) {
            same("block", x.block(), y.block());
        } else if (kind < 16 && !thrifty) {
            int k = random.nextInt(7) - 1;
            same("rollback " + k, x.rollback(k), y.rollback(k));
        } else if (kind < 18) {
            ask();
        } else {
            stray();
        }
    }

    private void ask() {
        int what = random.nextInt(8) - 1;
        int output = random.nextInt(y.outputs() + 2) - 1;
        same("about " + output + " " + what, x.about(output, what), y.about(output, what));
        same("result " + what, x.result(what), y.result(what));
        int asset = random.nextInt(5) - 1;
        same("total " + asset, x.total(asset), y.total(asset));
        same("pot", x.pot(), y.pot());
        same("height", x.height(), y.height());
        same("outputs", x.outputs(), y.outputs());
    }

    private void askAll() {
        for (int what = 0; what < 4; what++) {
            same("result " + what, x.result(what), y.result(what));
        }
        for (int output = 0; output < 48; output++) {
            same("spent " + output, x.about(output, 5), y.about(output, 5));
        }
        same("coin", x.total(0), y.total(0));
        same("pot", x.pot(), y.pot());
    }

    /** One part of a transaction out of its order, with arguments that are often wrong. */
    private void stray() {
        int a = any();
        int b = any();
        int c = any();
        switch (random.nextInt(8)) {
            case 0:
                x.begin();
                y.begin();
                calls++;
                break;
            case 1:
                same("spend", x.spend(a, b), y.spend(a, b));
                break;
            case 2:
                same("give", x.give(a, b, c, a, b), y.give(a, b, c, a, b));
                break;
            case 3:
                same("mint", x.mint(a, b, c), y.mint(a, b, c));
                break;
            case 4:
                same("terms", x.terms(a, b, c, b, a), y.terms(a, b, c, b, a));
                break;
            case 5:
                same("guarantee", x.guarantee(a), y.guarantee(a));
                break;
            case 6:
                same("type", x.type((long) a << 32 | b, c), y.type((long) a << 32 | b, c));
                break;
            default:
                same("run", x.run(a, b, c, a), y.run(a, b, c, a));
                break;
        }
    }

    private int any() {
        switch (random.nextInt(5)) {
            case 0:
                return random.nextInt();
            case 1:
                return 1000000 + random.nextInt(3) - 1;
            default:
                return random.nextInt(14) - 2;
        }
    }

    private void runScript() {
        int script = random.nextInt(8) - 1;
        int first = random.nextInt(6);
        int second = random.nextInt(3) == 0 ? random.nextInt() : random.nextInt(6);
        int budget = random.nextInt(3) == 0 ? random.nextInt(102) - 1 : 99;
        int outcome = y.run(script, first, second, budget);
        same("run " + script, x.run(script, first, second, budget), outcome);
        if (outcome >= 0) {
            outcomes[outcome]++;
        }
        for (int what = 0; what < 4; what++) {
            same("result " + what, x.result(what), y.result(what));
        }
    }

    private void define() {
        List<Integer> bytes = new ArrayList<>();
        if (random.nextInt(3) > 0) {
            for (int i = 0; i < 3; i++) {
                bytes.add(1);
            }
            if (random.nextBoolean()) {
                truth(bytes, 3);
            } else {
                term(bytes, 3, 3 + random.nextInt(6));
            }
        } else {
            term(bytes, 0, 2 + random.nextInt(8));
        }
        if (random.nextInt(8) == 0 && !bytes.isEmpty()) {
            bytes.set(random.nextInt(bytes.size()), random.nextInt(12));
        }
        int at = 0;
        while (at < bytes.size()) {
            int n = Math.min(1 + random.nextInt(8), bytes.size() - at);
            long typed = random.nextLong();
            for (int i = 0; i < n; i++) {
                typed = typed << 8 | bytes.get(at + i);
            }
            same("type", x.type(typed, n), y.type(typed, n));
            at += n;
        }
        same("define", x.define(), y.define());
    }

    /** A term that is likely to become a boolean. */
    private void truth(List<Integer> bytes, int lambdas) {
        bytes.add(2);
        bytes.add(2);
        bytes.add(4);
        bytes.add(4 + random.nextInt(2));
        number(bytes, lambdas, 2);
        number(bytes, lambdas, 2);
    }

    private void number(List<Integer> bytes, int lambdas, int deep) {
        int kind = random.nextInt(deep > 0 ? 5 : 2);
        if (kind == 0) {
            add(bytes, 3, 128 + random.nextInt(6));
        } else if (kind == 1) {
            add(bytes, 0, 1 + random.nextInt(lambdas - 1));
        } else if (kind == 2) {
            add(bytes, 2, 4, 8);
            int tails = random.nextInt(4);
            for (int i = 0; i < tails; i++) {
                add(bytes, 2, 4, 9);
            }
            add(bytes, 0, 0);
        } else {
            add(bytes, 2, 2, 4, random.nextInt(4));
            number(bytes, lambdas, deep - 1);
            number(bytes, lambdas, deep - 1);
        }
    }

    private static void add(List<Integer> bytes, int... more) {
        for (int each : more) {
            bytes.add(each);
        }
    }

    private void term(List<Integer> bytes, int lambdas, int deep) {
        int kind = deep == 0 ? random.nextInt(4) : random.nextInt(14);
        if (kind < 2) {
            if (lambdas > 0) {
                add(bytes, 0, random.nextInt(lambdas));
            } else {
                add(bytes, 3, random.nextInt(256));
            }
        } else if (kind == 2) {
            add(bytes, 4, random.nextInt(11));
        } else if (kind == 3) {
            bytes.add(random.nextInt(4) == 0 ? 7 : 8);
        } else if (kind < 6) {
            bytes.add(1);
            term(bytes, lambdas + 1, deep - 1);
        } else if (kind < 8) {
            add(bytes, 6, 5);
            term(bytes, lambdas, deep - 1);
        } else if (kind == 8) {
            bytes.add(5 + random.nextInt(2));
            term(bytes, lambdas, deep - 1);
        } else if (kind < 11) {
            add(bytes, 2, 1);
            term(bytes, lambdas + 1, deep - 1);
            term(bytes, lambdas, deep - 1);
        } else {
            called(bytes, lambdas, deep);
        }
    }

    private void called(List<Integer> bytes, int lambdas, int deep) {
        int builtin = random.nextInt(11);
        int arguments = builtin == 6 ? 3 : builtin >= 8 ? 1 : 2;
        for (int i = 0; i < arguments; i++) {
            bytes.add(2);
        }
        add(bytes, 4, builtin);
        for (int i = 0; i < arguments; i++) {
            term(bytes, lambdas, Math.min(deep - 1, 2));
        }
    }

    /** A transaction that is mostly a good one, with one thing or another off. */
    private void transact() {
        int[] sums = new int[3];
        int ins = random.nextInt(12) == 0 ? 0 : thrifty ? 1 : 1 + random.nextInt(3);
        for (int i = 0; i < ins; i++) {
            int output = input();
            if (spend(output, redeemer()) && y.about(output, 5) == 0) {
                for (int asset = 0; asset < 3; asset++) {
                    sums[asset] += y.about(output, asset);
                }
            }
        }
        for (int asset = 1; asset < 3; asset++) {
            if (random.nextInt(5) == 0) {
                int amount = random.nextBoolean() ? random.nextInt(9) : -Math.min(sums[asset], random.nextInt(9));
                int redeemer = redeemer();
                same("mint", x.mint(asset, amount, redeemer), y.mint(asset, amount, redeemer));
                sums[asset] += amount;
            }
        }
        int outs = thrifty ? 3 : random.nextInt(4);
        int budget = thrifty ? random.nextInt(30) : random.nextInt(3) == 0 ? random.nextInt(100)
            : 60 + random.nextInt(40);
        int fee = 5 + ins + outs + budget / 8 + random.nextInt(3) - (random.nextInt(9) == 0 ? 1 : 0);
        if (outs == 0) {
            fee = Math.max(fee, sums[0]);
        }
        sums[0] = Math.max(sums[0] - fee, 0);
        give(outs, sums);
        int from = random.nextInt(12) == 0 ? y.height() + 1 : random.nextInt(y.height() + 1);
        int to = random.nextInt(12) == 0 ? y.height() - 1 : y.height() + random.nextInt(3);
        int signers = random.nextInt(6) == 0 ? random.nextInt(16) : 15;
        same("terms", x.terms(fee, from, to, signers, budget), y.terms(fee, from, to, signers, budget));
        if (random.nextInt(8) > 0) {
            int guarantee = random.nextInt(4) == 0 ? input() : guarantee(fee);
            same("guarantee", x.guarantee(guarantee), y.guarantee(guarantee));
        }
        int answer = y.submit();
        submitted[answer]++;
        same("submit", x.submit(), answer);
        same("outputs", x.outputs(), y.outputs());
        same("steps", x.result(1), y.result(1));
    }

    private boolean spend(int output, int redeemer) {
        boolean taken = y.spend(output, redeemer);
        same("spend " + output, x.spend(output, redeemer), taken);
        return taken;
    }

    private void give(int outs, int[] sums) {
        for (int i = 0; i < outs; i++) {
            int[] parts = new int[3];
            for (int asset = 0; asset < 3; asset++) {
                parts[asset] = i == outs - 1 ? sums[asset] : random.nextInt(Math.max(sums[asset], 0) + 1);
                sums[asset] -= parts[asset];
            }
            if (random.nextInt(40) == 0) {
                parts[random.nextInt(3)]++;
            }
            int lock = random.nextBoolean() ? random.nextInt(4) : random.nextInt(10);
            int datum = random.nextInt(6);
            same("give", x.give(lock, datum, parts[0], parts[1], parts[2]),
                y.give(lock, datum, parts[0], parts[1], parts[2]));
        }
    }

    private int redeemer() {
        return random.nextInt(4) == 0 ? random.nextInt() : random.nextInt(6);
    }

    private int input() {
        for (int i = 0; i < 20; i++) {
            int output = random.nextInt(y.outputs());
            if (y.about(output, 5) == 0 && y.about(output, 0) >= random.nextInt(100)) {
                return output;
            }
        }
        return random.nextInt(y.outputs() + 1);
    }

    private int guarantee(int fee) {
        for (int output = 0; output < y.outputs(); output++) {
            if (y.about(output, 5) == 0 && y.about(output, 3) < 4 && y.about(output, 0) >= 2 * fee) {
                return output;
            }
        }
        return 0;
    }
}
