import java.util.Arrays;

/** Promise 2: type, and what "Terms" says of the draft. */
public final class TypeTest {
    private static final Due DUE = new Due();

    public static void main(String[] args) {
        highestFirst();
        higherBytesAreLeftOut();
        bytesUpTo255();
        oneToEight();
        atMost48();
        roomForEachNumber();
        DUE.end();
    }

    /** A script of 48 bytes with the value 77. */
    private static int[] longest() {
        int[] sum = Program.integer(67);
        for (int i = 1; i <= 4; i++) {
            sum = Program.builtin(Program.ADD, sum, Program.integer(i));
        }
        int[] rest = Program.builtin(Program.CONS, Program.force(Program.delay(sum)), Program.nil());
        int[] list = Program.builtin(Program.CONS, Program.integer(1), rest);
        return Program.script(Program.builtin(Program.HEAD, Program.builtin(Program.TAIL, list)));
    }

    /** "the lowest n bytes of bytes, the highest of these first": however it is parted, it is the same draft. */
    private static void highestFirst() {
        int[] whole = longest();
        DUE.same("bytes of the longest", whole.length, 48);
        for (int n = 1; n <= 8; n++) {
            ScriptLedger x = new ScriptLedger(0);
            for (int at = 0; at < 48; at += n) {
                int[] part = Arrays.copyOfRange(whole, at, Math.min(at + n, 48));
                long typed = 0x8877665544332211L;
                for (int each : part) {
                    typed = typed << 8 | each;
                }
                DUE.yes("type of " + part.length, x.type(typed, part.length));
            }
            DUE.same("define, typed by " + n, x.define(), 0);
            DUE.same("run, typed by " + n, x.run(0, 0, 0, 99), 1);
            DUE.same("value, typed by " + n, x.result(3), 77);
        }
    }

    private static void higherBytesAreLeftOut() {
        ScriptLedger x = new ScriptLedger(0);
        DUE.yes("type of the lowest byte", x.type(0x0708L, 1));
        DUE.same("define of NIL", x.define(), 0);
        DUE.yes("type of the lowest two", x.type(-1L << 16 | 0x0300L, 2));
        DUE.same("define of -128", x.define(), 1);
        DUE.yes("type of all eight", x.type(0x0706050403020100L, 8));
        DUE.same("define of ERROR with bytes left over", x.define(), -2);
    }

    /** "(0 .. 255)": a byte of 128 and more is not below 0, also when it is the highest of eight. */
    private static void bytesUpTo255() {
        int[] bytes = {0, 1, 127, 128, 129, 254, 255};
        for (int each : bytes) {
            ScriptLedger x = new ScriptLedger(0);
            DUE.yes("three lambdas and INTEGER", x.type(0x01010103L, 4));
            DUE.yes("the byte " + each, x.type(each, 1));
            DUE.same("define", x.define(), 0);
            x.run(0, 0, 0, 99);
            DUE.same("the number of " + each, x.result(3), each - 128);
            // The same byte as the highest of eight; what is behind it is a term with the value 0.
            DUE.yes("three lambdas, ADD, INTEGER", x.type(0x0101010202040003L, 8));
            DUE.yes("the byte " + each + " and seven more", x.type((long) each << 56 | 0x06050201038008L, 8));
            DUE.same("define", x.define(), 1);
            x.run(1, 0, 0, 99);
            DUE.same("the number of " + each + " and 0", x.result(3), each - 128);
        }
        ScriptLedger x = new ScriptLedger(0);
        DUE.yes("eight bytes of 255", x.type(-1L, 8));
        DUE.same("define of what is no term", x.define(), -2);
    }

    /** "false when n is not 1 .. 8". */
    private static void oneToEight() {
        for (int n : new int[] {0, -1, 9, 10, 256, Integer.MAX_VALUE, Integer.MIN_VALUE}) {
            ScriptLedger x = new ScriptLedger(0);
            DUE.no("type of " + n + " bytes", x.type(8, n));
            DUE.same("what is refused is not typed", x.define(), -2);
        }
        for (int n = 1; n <= 8; n++) {
            DUE.yes("type of " + n + " bytes", new ScriptLedger(0).type(8, n));
        }
    }

    /** "a row of at most 48 bytes". */
    private static void atMost48() {
        ScriptLedger x = new ScriptLedger(0);
        int[] whole = longest();
        DUE.yes("48 bytes", Program.type(x, whole));
        DUE.no("a 49th", x.type(8, 1));
        DUE.no("eight more", x.type(8, 8));
        DUE.same("define of 48 bytes", x.define(), 0);
        x.run(0, 0, 0, 99);
        DUE.same("its value", x.result(3), 77);
        DUE.yes("the draft is empty again", Program.type(x, whole));
        DUE.no("a 49th", x.type(8, 1));
        DUE.same("define of 48 bytes again", x.define(), 1);
        DUE.yes("47 bytes", Program.type(x, Arrays.copyOf(whole, 47)));
        DUE.yes("the 48th", x.type(whole[47], 1));
        DUE.same("define", x.define(), 2);
    }

    /** "or the draft would have more than 48": with n bytes to spare n are taken, and n + 1 are not. */
    private static void roomForEachNumber() {
        for (int n = 1; n <= 7; n++) {
            ScriptLedger x = new ScriptLedger(0);
            DUE.yes("48 - n bytes", Program.type(x, new int[48 - n]));
            DUE.no("n + 1 where n have room", x.type(0, n + 1));
            DUE.yes("n where n have room", x.type(0, n));
            DUE.no("one more", x.type(0, 1));
        }
    }
}
