/** Promises 15 to 20. */
final class LookingTest {
    private static final int INVALID = -1;
    private static final int NONE = -9;

    public static void main(String[] args) {
        count();
        row();
        rowWithoutOnes();
        word();
        bit();
        rank();
        select();
        changesNothing();
        Due.finish("LookingTest");
    }

    private static void counts(PackedBits x, int... want) {
        for (int what = 0; what < want.length; what++) {
            Due.that("count(" + what + ")", x.count(what), want[what]);
        }
    }

    private static void count() {
        PackedBits x = Due.withRows(2);
        counts(x, 2, 0, 0, 0, 2, 0);
        x.append(0, 1, 16);
        x.append(1, 0, 31);
        x.type(200);
        counts(x, 2, 47, 3, 16, 4, 1);
        x.set(1, 30, 1);
        counts(x, 2, 47, 4, 17, 5, 1);
        x.append(0, 0, 584);
        counts(x, 2, 631, 6, 17, 5, 1);
        x.undo();
        counts(x, 2, 47, 4, 17, 4, 1);
        Due.that("count(6)", x.count(6), INVALID);
        Due.that("count(-1)", x.count(-1), INVALID);
        PackedBits y = Due.withRows(8);
        for (int row = 0; row < 8; row++) {
            y.append(row, 1, 600);
        }
        counts(y, 8, 4800, 16, 4800, 5, 0);
    }

    private static void properties(PackedBits x, int row, int... want) {
        for (int what = 0; what < want.length; what++) {
            Due.that("row(" + row + ", " + what + ")", x.row(row, what), want[what]);
        }
    }

    private static void row() {
        PackedBits x = Due.withRows(2);
        x.append(1, 0, 315);
        x.append(1, 1, 50);
        x.append(1, 0, 5);
        x.append(1, 1, 1);
        x.append(1, 0, 30);
        // 21 zero groups, 3 of ones, a literal of 5 ones, 5 zeros and 1 one, 2 zero groups
        properties(x, 1, 401, 5, 1, 3, 1, 51, 315, 370);
        properties(x, 0, 0, 0, 0, 0, 0, 0, NONE, NONE);
        Due.that("row(2, 0)", x.row(2, 0), INVALID);
        Due.that("row(-1, 0)", x.row(-1, 0), INVALID);
        Due.that("row(0, 8)", x.row(0, 8), INVALID);
        Due.that("row(0, -1)", x.row(0, -1), INVALID);
        Due.that("row(1, 8)", x.row(1, 8), INVALID);
    }

    private static void rowWithoutOnes() {
        PackedBits x = Due.withRows(1);
        x.append(0, 0, 600);
        properties(x, 0, 600, 2, 0, 2, 0, 0, NONE, NONE);
        x.set(0, 599, 1);
        properties(x, 0, 600, 3, 1, 2, 0, 1, 599, 599);
        x.set(0, 0, 1);
        properties(x, 0, 600, 4, 2, 2, 0, 2, 0, 599);
    }

    private static void word() {
        PackedBits x = Due.withRows(2);
        x.append(0, 0, 330);
        x.append(0, 1, 270);
        Due.words(x, 0, 32788, 32770, 49170);
        x.set(0, 329, 1);
        x.set(0, 599, 0);
        Due.words(x, 0, 32788, 32769, 16384, 49169, 16383);
        x.append(1, 1, 14);
        Due.words(x, 1, 16383);
        x.append(1, 1, 1);
        Due.words(x, 1, 49153);
        x.resize(1, 16);
        Due.words(x, 1, 49153, 32769);
        Due.that("word(0, -1)", x.word(0, -1), INVALID);
        Due.that("word(2, 0)", x.word(2, 0), INVALID);
        Due.that("word(-1, 0)", x.word(-1, 0), INVALID);
        Due.that("word(2, 1000)", x.word(2, 1000), INVALID);
        Due.that("word(0, greatest)", x.word(0, Integer.MAX_VALUE), NONE);
        x.resize(1, 0);
        Due.that("word(1, 0)", x.word(1, 0), NONE);
    }

    private static void bit() {
        PackedBits x = Due.withRows(2);
        Due.fill(x, 0, "0110");
        Due.that("bit(0, 0)", x.bit(0, 0), 0);
        Due.that("bit(0, 1)", x.bit(0, 1), 1);
        Due.that("bit(0, 3)", x.bit(0, 3), 0);
        Due.that("bit(0, 4)", x.bit(0, 4), INVALID);
        Due.that("bit(0, -1)", x.bit(0, -1), INVALID);
        Due.that("bit(1, 0)", x.bit(1, 0), INVALID);
        Due.that("bit(2, 0)", x.bit(2, 0), INVALID);
        Due.that("bit(-1, 0)", x.bit(-1, 0), INVALID);
        x.append(1, 1, 600);
        Due.that("bit(1, 599)", x.bit(1, 599), 1);
        Due.that("bit(1, 600)", x.bit(1, 600), INVALID);
    }

    private static void rank() {
        PackedBits x = Due.withRows(2);
        x.append(0, 1, 20);
        x.append(0, 0, 20);
        x.append(0, 1, 2);
        int[] places = {0, 1, 14, 15, 16, 20, 21, 40, 41, 42};
        int[] ones = {0, 1, 14, 15, 16, 20, 20, 20, 21, 22};
        for (int index = 0; index < places.length; index++) {
            Due.that("rank(0, " + places[index] + ")", x.rank(0, places[index]), ones[index]);
        }
        Due.that("rank(0, 43)", x.rank(0, 43), INVALID);
        Due.that("rank(0, -1)", x.rank(0, -1), INVALID);
        Due.that("rank(1, 0)", x.rank(1, 0), 0);
        Due.that("rank(1, 1)", x.rank(1, 1), INVALID);
        Due.that("rank(2, 0)", x.rank(2, 0), INVALID);
        Due.that("rank(-1, 0)", x.rank(-1, 0), INVALID);
    }

    private static void select() {
        PackedBits x = Due.withRows(2);
        Due.fill(x, 0, "0100000000000011000000000000001");
        int[] places = {1, 14, 15, 30};
        for (int index = 0; index < places.length; index++) {
            Due.that("select(0, " + index + ")", x.select(0, index), places[index]);
        }
        Due.that("select(0, 4)", x.select(0, 4), NONE);
        Due.that("select(0, greatest)", x.select(0, Integer.MAX_VALUE), NONE);
        Due.that("select(0, -1)", x.select(0, -1), INVALID);
        Due.that("select(1, 0)", x.select(1, 0), NONE);
        Due.that("select(1, -1)", x.select(1, -1), INVALID);
        Due.that("select(2, 0)", x.select(2, 0), INVALID);
        Due.that("select(-1, 0)", x.select(-1, 0), INVALID);
    }

    private static void changesNothing() {
        PackedBits x = Due.withRows(1);
        x.append(0, 1, 33);
        String before = Due.state(x);
        x.count(3);
        x.row(0, 1);
        x.word(0, 0);
        x.bit(0, 0);
        x.rank(0, 3);
        x.select(0, 3);
        Due.holds("looking changes nothing", before.equals(Due.state(x)));
    }
}
