/** Promises 21 to 23. */
final class CouldBeTest {
    private static final int INVALID = -1;

    public static void main(String[] args) {
        would();
        wouldAsOperateDoes();
        wouldRefuses();
        same();
        bestShift();
        bestShiftLoses();
        Due.finish("CouldBeTest");
    }

    private static void would() {
        PackedBits x = Due.withRows(3);
        x.append(0, 1, 45);
        x.append(1, 0, 15);
        x.append(1, 1, 30);
        // row 0 is one word, row 1 ends words at 1 and 3
        int[] sizes = {2, 1, 2, 2};
        int[] ones = {30, 45, 15, 15};
        for (int operation = 0; operation <= 3; operation++) {
            String call = "would(" + operation + ", 0, 1, ";
            Due.that(call + "0)", x.would(operation, 0, 1, 0), 2);
            Due.that(call + "1)", x.would(operation, 0, 1, 1), sizes[operation]);
            Due.that(call + "2)", x.would(operation, 0, 1, 2), ones[operation]);
        }
        Due.that("would(2, 1, 0, 2)", x.would(2, 1, 0, 2), 0);
        Due.that("would(2, 1, 0, 1)", x.would(2, 1, 0, 1), 1);
        for (int what = 0; what <= 2; what++) {
            Due.that("of nothing", x.would(1, 2, 2, what), 0);
        }
        Due.that("with nothing", x.would(0, 1, 2, 0), 2);
        Due.that("with nothing", x.would(0, 2, 1, 1), 1);
    }

    private static void wouldAsOperateDoes() {
        PackedBits x = Due.withRows(3);
        Due.fill(x, 0, "11010011010111010010101011");
        Due.fill(x, 1, "0010100000000000000000000000000000000000001");
        for (int operation = 0; operation <= 3; operation++) {
            String before = Due.state(x);
            int work = x.would(operation, 0, 1, 0);
            int size = x.would(operation, 0, 1, 1);
            int ones = x.would(operation, 0, 1, 2);
            Due.holds("would() changes nothing", before.equals(Due.state(x)));
            Due.that("work", x.operate(2, operation, 0, 1), work);
            Due.that("size", x.row(2, 1), size);
            Due.that("ones", x.row(2, 5), ones);
        }
    }

    private static void wouldRefuses() {
        PackedBits x = Due.withRows(2);
        Due.that("would(-1, 0, 1, 0)", x.would(-1, 0, 1, 0), INVALID);
        Due.that("would(4, 0, 1, 0)", x.would(4, 0, 1, 0), INVALID);
        Due.that("would(0, 2, 1, 0)", x.would(0, 2, 1, 0), INVALID);
        Due.that("would(0, -1, 1, 0)", x.would(0, -1, 1, 0), INVALID);
        Due.that("would(0, 0, 2, 0)", x.would(0, 0, 2, 0), INVALID);
        Due.that("would(0, 0, -1, 0)", x.would(0, 0, -1, 0), INVALID);
        Due.that("would(0, 0, 1, 3)", x.would(0, 0, 1, 3), INVALID);
        Due.that("would(0, 0, 1, -1)", x.would(0, 0, 1, -1), INVALID);
    }

    private static void same() {
        PackedBits x = Due.withRows(5);
        x.append(0, 1, 5);
        x.append(1, 1, 5);
        x.append(2, 1, 5);
        x.append(2, 0, 1);
        x.append(3, 1, 5);
        Due.that("same(0)", x.same(0), 0);
        Due.that("same(1)", x.same(1), 0);
        Due.that("another length", x.same(2), 2);
        Due.that("same(3)", x.same(3), 0);
        Due.that("same(4)", x.same(4), 4);
        x.set(0, 4, 0);
        Due.that("other bits", x.same(1), 1);
        Due.that("same(3)", x.same(3), 1);
        Due.that("same(5)", x.same(5), INVALID);
        Due.that("same(-1)", x.same(-1), INVALID);
    }

    private static void bestShift() {
        PackedBits x = Due.withRows(3);
        Due.that("of nothing", x.bestShift(0), 0);
        x.append(0, 0, 10);
        x.append(0, 1, 30);
        // by 5 it is one fill of zeros and one of ones
        String before = Due.state(x);
        Due.that("bestShift(0)", x.bestShift(0), 5);
        Due.holds("bestShift() changes nothing", before.equals(Due.state(x)));
        x.append(1, 1, 15);
        Due.that("of several the smallest one", x.bestShift(1), 0);
        x.append(2, 0, 1);
        x.append(2, 1, 30);
        Due.that("bestShift(2)", x.bestShift(2), 14);
        Due.that("bestShift(3)", x.bestShift(3), INVALID);
        Due.that("bestShift(-1)", x.bestShift(-1), INVALID);
    }

    private static void bestShiftLoses() {
        PackedBits x = Due.withRows(1);
        x.append(0, 0, 597);
        x.append(0, 1, 3);
        // the three ones are lost by a shift of 3, and only zeros are left
        Due.that("bestShift(0)", x.bestShift(0), 3);
        Due.that("row(0, 5)", x.row(0, 5), 3);
        x.resize(0, 585);
        x.append(0, 1, 15);
        // only a shift of 15 would lose them all
        Due.that("bestShift(0)", x.bestShift(0), 0);
        x.resize(0, 14);
        x.append(0, 1, 30);
        Due.that("bestShift(0)", x.bestShift(0), 1);
    }
}
