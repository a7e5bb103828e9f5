/** Compares answers with those that are due, and ends a test. */
final class Due {
    private static int wrong = 0;
    private static int asked = 0;

    private Due() {
    }

    static void that(String call, int got, int want) {
        asked++;
        if (got != want) {
            wrong++;
            System.out.println(call + " answered " + got + ", due is " + want);
        }
    }

    static void holds(String fact, boolean isSo) {
        that(fact, isSo ? 1 : 0, 1);
    }

    static boolean anyWrong() {
        return wrong != 0;
    }

    static void finish(String test) {
        System.out.println(test + ": " + asked + " answers, " + wrong + " not as due");
        if (wrong != 0 || asked == 0) {
            System.exit(1);
        }
    }

    /** A fresh object with some rows of the length 0. */
    static PackedBits withRows(int many) {
        PackedBits x = new PackedBits();
        for (int number = 0; number < many; number++) {
            that("make()", x.make(), number);
        }
        return x;
    }

    /** Clears the text and types another one. */
    static void type(PackedBits x, String text) {
        x.clearText();
        for (int index = 0; index < text.length(); index++) {
            that("type in " + text, x.type(text.charAt(index)), index + 1);
        }
    }

    /** Appends bits that are written as 0 and 1, the first one first. */
    static void fill(PackedBits x, int row, String bits) {
        for (int index = 0; index < bits.length(); index++) {
            x.append(row, bits.charAt(index) - '0', 1);
        }
    }

    static void bits(PackedBits x, int row, String want) {
        that("row(" + row + ", 0)", x.row(row, 0), want.length());
        for (int at = 0; at < want.length(); at++) {
            that("bit(" + row + ", " + at + ") of " + want, x.bit(row, at), want.charAt(at) - '0');
        }
    }

    static void words(PackedBits x, int row, int... want) {
        for (int index = 0; index < want.length; index++) {
            that("word(" + row + ", " + index + ")", x.word(row, index), want[index]);
        }
        that("word(" + row + ", " + want.length + ")", x.word(row, want.length), PackedBits.NONE);
        that("row(" + row + ", 1)", x.row(row, 1), want.length);
    }

    /** All that can be seen of the state but the text and the failure. */
    static String state(PackedBits x) {
        StringBuilder seen = new StringBuilder();
        for (int what = 0; what <= 4; what++) {
            seen.append(x.count(what)).append(' ');
        }
        for (int row = 0; row < x.count(0); row++) {
            seen.append("/ ").append(x.row(row, 0)).append(' ');
            for (int index = 0; index < x.row(row, 1); index++) {
                seen.append(x.word(row, index)).append(' ');
            }
        }
        return seen.toString();
    }
}
