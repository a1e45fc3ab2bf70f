/** Writes terms as bytes, types them and makes them scripts. */
final class Program {
    static final int ADD = 0;
    static final int SUBTRACT = 1;
    static final int MULTIPLY = 2;
    static final int DIVIDE = 3;
    static final int EQUAL = 4;
    static final int LESS = 5;
    static final int IF = 6;
    static final int CONS = 7;
    static final int HEAD = 8;
    static final int TAIL = 9;
    static final int EMPTY = 10;

    private Program() {
    }

    static int[] variable(int k) {
        return new int[] {0, k};
    }

    static int[] lambda(int[] body) {
        return join(new int[] {1}, body);
    }

    /** The function applied to the first argument, that to the second one, and so on. */
    static int[] apply(int[] function, int[]... arguments) {
        int[] whole = function;
        for (int[] argument : arguments) {
            whole = join(new int[] {2}, join(whole, argument));
        }
        return whole;
    }

    static int[] integer(int number) {
        return new int[] {3, number + 128};
    }

    static int[] builtin(int number, int[]... arguments) {
        return apply(new int[] {4, number}, arguments);
    }

    static int[] delay(int[] body) {
        return join(new int[] {5}, body);
    }

    static int[] force(int[] term) {
        return join(new int[] {6}, term);
    }

    static int[] error() {
        return new int[] {7};
    }

    static int[] nil() {
        return new int[] {8};
    }

    static int[] yes() {
        return builtin(LESS, integer(0), integer(1));
    }

    static int[] no() {
        return builtin(LESS, integer(1), integer(0));
    }

    /** A term whose evaluation never ends. */
    static int[] endless() {
        int[] twice = lambda(apply(variable(0), variable(0)));
        return apply(twice, twice);
    }

    /** A script with this body: in it the first value is variable 2, the second 1, the third 0. */
    static int[] script(int[] body) {
        return lambda(lambda(lambda(body)));
    }

    /** The number that stands at a place in the third value of a script. */
    static int[] inContext(int place) {
        int[] list = variable(0);
        for (int i = 0; i < place; i++) {
            list = builtin(TAIL, list);
        }
        return builtin(HEAD, list);
    }

    static int[] repeat(int head, int times, int[] tail) {
        int[] whole = tail;
        for (int i = 0; i < times; i++) {
            whole = join(new int[] {head}, whole);
        }
        return whole;
    }

    static int[] join(int[] left, int[] right) {
        int[] whole = new int[left.length + right.length];
        System.arraycopy(left, 0, whole, 0, left.length);
        System.arraycopy(right, 0, whole, left.length, right.length);
        return whole;
    }

    /** Types the bytes one by one; answers whether all were taken. */
    static boolean type(ScriptLedger x, int... bytes) {
        boolean taken = true;
        for (int each : bytes) {
            taken &= x.type(each, 1);
        }
        return taken;
    }

    /** Types the bytes, eight at a time to spare calls, and makes the draft a script. */
    static int define(ScriptLedger x, int... bytes) {
        for (int at = 0; at < bytes.length; at += 8) {
            int n = Math.min(8, bytes.length - at);
            long typed = 0;
            for (int i = 0; i < n; i++) {
                typed = typed << 8 | bytes[at + i];
            }
            x.type(typed, n);
        }
        return x.define();
    }
}
