/** Promise 2: type. */
public final class TypeTest {
    public static void main(String[] args) {
        Due due = new Due();
        order(due);
        highBitsAreLeftOut(due);
        numbersOfBytes(due);
        room(due);
        due.end();
    }

    private static void order(Due due) {
        ScriptLedger x = new ScriptLedger(0);
        due.yes("type of lambda, lambda, lambda, integer 7", x.type(0x0101010387L, 5));
        due.same("define", x.define(), 0);
        x.run(0, 0, 0, 99);
        due.same("the number typed", x.result(3), 7);
        due.yes("type in two parts", x.type(0x010101L, 3) && x.type(0x0385L, 2));
        due.same("define", x.define(), 1);
        x.run(1, 0, 0, 99);
        due.same("the number typed in two parts", x.result(3), 5);
    }

    private static void highBitsAreLeftOut(Due due) {
        ScriptLedger x = new ScriptLedger(0);
        due.yes("type of the lowest byte", x.type(0x0708L, 1));
        due.same("define of NIL", x.define(), 0);
        due.yes("type of the lowest two", x.type(-1L << 16 | 0x0300L, 2));
        due.same("define of -128", x.define(), 1);
        due.yes("eight bytes, the highest with its sign", x.type(0x0706050403020100L, 8));
        due.same("define of ERROR with bytes left over", x.define(), -2);
        due.yes("bytes of 255", x.type(-1L, 8));
        due.same("define of a byte that is no term", x.define(), -2);
        due.yes("an integer of 255", x.type(0x03ffL, 2));
        due.same("define of 127", x.define(), 2);
    }

    private static void numbersOfBytes(Due due) {
        ScriptLedger x = new ScriptLedger(0);
        int[] refused = {0, -1, 9, 256, Integer.MAX_VALUE, Integer.MIN_VALUE};
        for (int n : refused) {
            due.no("type of " + n + " bytes", x.type(8, n));
        }
        due.same("what is refused is not typed", x.define(), -2);
        for (int n = 1; n <= 8; n++) {
            due.yes("type of " + n + " bytes", x.type(8, n));
        }
    }

    private static void room(Due due) {
        ScriptLedger x = new ScriptLedger(0);
        int[] full = Program.error();
        for (int i = 0; i < 15; i++) {
            full = Program.apply(full, Program.integer(i));
        }
        due.same("bytes of the term", full.length, 46);
        due.yes("46 bytes", Program.type(x, full));
        due.no("3 bytes more", x.type(0, 3));
        due.yes("2 bytes more", x.type(0x0101L, 2));
        due.no("a 49th byte", x.type(8, 1));
        due.same("define with bytes left over", x.define(), -2);
        due.yes("2 of 48 bytes", x.type(0x0606L, 2));
        due.yes("46 of 48 bytes", Program.type(x, full));
        due.no("a 49th byte", x.type(8, 1));
        due.same("define of 48 bytes", x.define(), 0);
        due.yes("the draft is empty again", x.type(8, 8));
    }
}
