/** Promises 7 to 10. */
final class OperationsTest {
    private static final int INVALID = -1;

    public static void main(String[] args) {
        results();
        lengths();
        work();
        rowsOfTheirOwn();
        operateRefuses();
        not();
        shift();
        shiftLoses();
        shiftRefuses();
        undo();
        undoAll();
        Due.finish("OperationsTest");
    }

    private static void results() {
        String[] want = {"000100", "011111", "001001", "011011"};
        for (int operation = 0; operation <= 3; operation++) {
            PackedBits x = Due.withRows(3);
            Due.fill(x, 0, "001101");
            Due.fill(x, 1, "01011");
            Due.that("operate(2, " + operation + ", 0, 1)", x.operate(2, operation, 0, 1), 1);
            Due.bits(x, 2, want[operation]);
            Due.bits(x, 0, "001101");
            Due.bits(x, 1, "01011");
        }
    }

    private static void lengths() {
        PackedBits x = Due.withRows(3);
        x.append(0, 1, 5);
        x.append(1, 1, 40);
        x.operate(2, 0, 0, 1);
        Due.that("length of the longer one", x.row(2, 0), 40);
        Due.that("ones", x.row(2, 5), 5);
        x.operate(2, 2, 0, 1);
        Due.that("length", x.row(2, 0), 40);
        Due.that("ones", x.row(2, 5), 0);
        x.operate(2, 2, 1, 0);
        Due.that("ones", x.row(2, 5), 35);
        x.append(2, 1, 500);
        x.operate(2, 1, 0, 0);
        Due.that("in place of what it was", x.row(2, 0), 5);
    }

    private static void work() {
        PackedBits x = Due.withRows(4);
        x.append(0, 0, 600);
        Due.that("one long fill: two words", x.operate(3, 1, 0, 0), 2);
        Due.that("and nothing", x.operate(3, 1, 0, 1), 2);
        Due.that("nothing at all", x.operate(3, 1, 1, 1), 0);
        x.append(1, 1, 75);
        Due.that("ends at 5, 20, 40", x.operate(3, 0, 0, 1), 3);
        Due.that("in the other order", x.operate(3, 0, 1, 0), 3);
        x.append(2, 0, 15);
        x.append(2, 1, 1);
        x.append(2, 0, 44);
        // row 1 ends words at 5, row 2 at 1, 2, 4
        Due.that("ends at 1, 2, 4, 5", x.operate(3, 0, 1, 2), 4);
        Due.that("ends at 1, 2, 4", x.operate(3, 0, 2, 2), 3);
        Due.that("ends at 1, 2, 4, 20, 40", x.operate(3, 0, 2, 0), 5);
        Due.that("the work of what it was", x.operate(2, 0, 0, 2), 5);
    }

    private static void rowsOfTheirOwn() {
        PackedBits x = Due.withRows(2);
        Due.fill(x, 0, "1100");
        Due.fill(x, 1, "10101");
        x.operate(0, 2, 0, 1);
        Due.bits(x, 0, "01000");
        x.operate(1, 2, 0, 1);
        Due.bits(x, 1, "01000");
        x.operate(1, 3, 1, 1);
        Due.bits(x, 1, "00000");
        Due.that("is an action", x.undo(), 4);
        Due.bits(x, 1, "01000");
    }

    private static void operateRefuses() {
        PackedBits x = Due.withRows(2);
        x.append(0, 1, 20);
        String before = Due.state(x);
        Due.that("operate(2, 0, 0, 1)", x.operate(2, 0, 0, 1), INVALID);
        Due.that("operate(-1, 0, 0, 1)", x.operate(-1, 0, 0, 1), INVALID);
        Due.that("operate(1, 4, 0, 1)", x.operate(1, 4, 0, 1), INVALID);
        Due.that("operate(1, -1, 0, 1)", x.operate(1, -1, 0, 1), INVALID);
        Due.that("operate(1, 0, 2, 1)", x.operate(1, 0, 2, 1), INVALID);
        Due.that("operate(1, 0, -1, 1)", x.operate(1, 0, -1, 1), INVALID);
        Due.that("operate(1, 0, 0, 2)", x.operate(1, 0, 0, 2), INVALID);
        Due.that("operate(1, 0, 0, -1)", x.operate(1, 0, 0, -1), INVALID);
        Due.holds("a refused operate changes nothing", before.equals(Due.state(x)));
    }

    private static void not() {
        PackedBits x = Due.withRows(1);
        Due.that("not of nothing", x.not(0), 0);
        Due.that("states", x.count(4), 2);
        Due.fill(x, 0, "1011");
        Due.that("not(0)", x.not(0), 1);
        Due.bits(x, 0, "0100");
        x.resize(0, 32);
        Due.that("not(0)", x.not(0), 31);
        Due.words(x, 0, 32765, 49153, 3);
        Due.that("undo()", x.undo(), 4);
        Due.that("ones", x.row(0, 5), 1);
        Due.that("not(1)", x.not(1), INVALID);
        Due.that("not(-1)", x.not(-1), INVALID);
        Due.that("states", x.count(4), 4);
    }

    private static void shift() {
        PackedBits x = Due.withRows(1);
        Due.fill(x, 0, "1011");
        Due.that("shift(0, 2)", x.shift(0, 2), 6);
        Due.bits(x, 0, "001011");
        Due.that("shift(0, -3)", x.shift(0, -3), 3);
        Due.bits(x, 0, "011");
        Due.that("shift(0, 0)", x.shift(0, 0), 3);
        Due.bits(x, 0, "011");
        Due.that("shift(0, 45)", x.shift(0, 45), 48);
        Due.words(x, 0, 32771, 6);
        Due.that("shift(0, -16)", x.shift(0, -16), 32);
        Due.words(x, 0, 32770, 3);
        Due.that("undo()", x.undo(), 4);
        Due.words(x, 0, 32771, 6);
    }

    private static void shiftLoses() {
        PackedBits x = Due.withRows(1);
        x.append(0, 1, 600);
        Due.that("shift(0, 599)", x.shift(0, 599), 600);
        Due.that("ones", x.row(0, 5), 1);
        Due.that("first one", x.row(0, 6), 599);
        Due.that("shift(0, 600)", x.shift(0, 600), 600);
        Due.that("ones", x.row(0, 5), 0);
        Due.that("shift(0, -599)", x.shift(0, -599), 1);
        Due.that("shift(0, -2)", x.shift(0, -2), 0);
        Due.that("shift(0, -1)", x.shift(0, -1), 0);
        Due.that("shift(0, 7)", x.shift(0, 7), 7);
        Due.bits(x, 0, "0000000");
        x.append(0, 1, 593);
        Due.that("shift(0, 20)", x.shift(0, 20), 600);
        Due.that("shift(0, -20)", x.shift(0, -20), 580);
        Due.that("ones", x.row(0, 5), 573);
    }

    private static void shiftRefuses() {
        PackedBits x = Due.withRows(1);
        x.append(0, 1, 10);
        String before = Due.state(x);
        Due.that("shift(0, 601)", x.shift(0, 601), INVALID);
        Due.that("shift(0, -601)", x.shift(0, -601), INVALID);
        Due.that("shift(0, least)", x.shift(0, Integer.MIN_VALUE), INVALID);
        Due.that("shift(1, 0)", x.shift(1, 0), INVALID);
        Due.that("shift(-1, 0)", x.shift(-1, 0), INVALID);
        Due.holds("a refused shift changes nothing", before.equals(Due.state(x)));
    }

    private static void undo() {
        PackedBits x = new PackedBits();
        Due.that("undo() of nothing", x.undo(), -2);
        for (int times = 0; times < 6; times++) {
            x.make();
        }
        Due.that("states", x.count(4), 5);
        for (int left = 4; left >= 0; left--) {
            Due.that("undo()", x.undo(), left);
            Due.that("rows", x.count(0), left + 1);
            Due.that("states", x.count(4), left);
        }
        Due.that("the oldest one is dropped", x.undo(), -2);
        Due.that("rows", x.count(0), 1);
    }

    private static void undoAll() {
        PackedBits x = Due.withRows(2);
        x.append(0, 1, 20);
        Due.type(x, "0>1x");
        Due.that("evaluate(0)", x.evaluate(0), -1003);
        Due.type(x, "0>1");
        String start = Due.state(x);
        Due.that("evaluate(1)", x.evaluate(1), 2);
        x.set(0, 3, 0);
        x.not(1);
        Due.that("states", x.count(4), 5);
        Due.that("undo()", x.undo(), 4);
        Due.bits(x, 1, "1111111111111111111");
        Due.that("undo()", x.undo(), 3);
        Due.that("bit(0, 3)", x.bit(0, 3), 1);
        Due.that("undo()", x.undo(), 2);
        Due.bits(x, 1, "");
        Due.bits(x, 0, "11111111111111111111");
        Due.holds("sums as they were", start.startsWith("2 20 2 20 ") && Due.state(x).startsWith("2 20 2 20 "));
        Due.that("the text stays", x.count(5), 3);
        Due.that("the failure stays", x.failure(1), 3);
        Due.that("a new action after undo", x.shift(0, 1), 21);
        Due.that("states", x.count(4), 3);
        Due.that("undo()", x.undo(), 2);
        Due.that("length", x.row(0, 0), 20);
    }
}
