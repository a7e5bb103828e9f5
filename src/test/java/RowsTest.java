/** Promises 1 to 6. */
final class RowsTest {
    private static final int INVALID = -1;
    private static final int FULL = -3;

    public static void main(String[] args) {
        newObject();
        make();
        append();
        appendRefuses();
        write();
        writeRefuses();
        set();
        setRefuses();
        resize();
        shortestForm();
        Due.finish("RowsTest");
    }

    private static void newObject() {
        PackedBits x = new PackedBits();
        for (int what = 0; what <= 5; what++) {
            Due.that("new: count(" + what + ")", x.count(what), 0);
        }
        Due.that("new: row(0, 0)", x.row(0, 0), INVALID);
        Due.that("new: undo()", x.undo(), -2);
        Due.that("new: failure(0)", x.failure(0), -9);
        Due.that("new: clearText()", x.clearText(), 0);
        PackedBits y = new PackedBits();
        x.make();
        Due.that("two objects share nothing", y.count(0), 0);
    }

    private static void make() {
        PackedBits x = Due.withRows(8);
        Due.that("ninth make()", x.make(), FULL);
        Due.that("rows", x.count(0), 8);
        Due.that("states", x.count(4), 5);
        Due.that("row(7, 0)", x.row(7, 0), 0);
        Due.that("row(8, 0)", x.row(8, 0), INVALID);
        Due.that("undo()", x.undo(), 4);
        Due.that("row(7, 0) undone", x.row(7, 0), INVALID);
        Due.that("make() again", x.make(), 7);
        PackedBits y = Due.withRows(1);
        y.append(0, 1, 30);
        y.undo();
        y.undo();
        Due.that("make() after undo", y.make(), 0);
        Due.that("its length", y.row(0, 0), 0);
        Due.that("its ones", y.row(0, 5), 0);
    }

    private static void append() {
        PackedBits x = Due.withRows(2);
        Due.that("append(0, 1, 1)", x.append(0, 1, 1), 1);
        Due.that("append(0, 0, 2)", x.append(0, 0, 2), 3);
        Due.that("append(0, 1, 3)", x.append(0, 1, 3), 6);
        Due.bits(x, 0, "100111");
        Due.that("append(0, 1, 594)", x.append(0, 1, 594), 600);
        Due.that("ones", x.row(0, 5), 598);
        Due.that("append(1, 1, 600)", x.append(1, 1, 600), 600);
        Due.words(x, 1, 49172, 49172);
        Due.that("is an action", x.undo(), 4);
        Due.that("length undone", x.row(1, 0), 0);
    }

    private static void appendRefuses() {
        PackedBits x = Due.withRows(1);
        x.append(0, 1, 7);
        String before = Due.state(x);
        Due.that("append(-1, 0, 1)", x.append(-1, 0, 1), INVALID);
        Due.that("append(1, 0, 1)", x.append(1, 0, 1), INVALID);
        Due.that("append(0, -1, 1)", x.append(0, -1, 1), INVALID);
        Due.that("append(0, 2, 1)", x.append(0, 2, 1), INVALID);
        Due.that("append(0, 0, 0)", x.append(0, 0, 0), INVALID);
        Due.that("append(0, 0, 601)", x.append(0, 0, 601), INVALID);
        Due.that("append(0, 0, 594)", x.append(0, 0, 594), FULL);
        Due.that("append(0, 2, 594)", x.append(0, 2, 594), INVALID);
        Due.that("append(0, 0, greatest)", x.append(0, 0, Integer.MAX_VALUE), INVALID);
        Due.holds("a refused append changes nothing", before.equals(Due.state(x)));
    }

    private static void write() {
        PackedBits x = Due.withRows(1);
        Due.that("write(0, 13, 5)", x.write(0, 13, 5), 1);
        Due.bits(x, 0, "10110");
        Due.that("write(0, 65535, 1)", x.write(0, 65535, 1), 1);
        Due.bits(x, 0, "101101");
        Due.that("write(0, 32768, 16)", x.write(0, 32768, 16), 2);
        Due.bits(x, 0, "1011010000000000000001");
        Due.that("write(0, 0, 16)", x.write(0, 0, 16), 3);
        Due.words(x, 0, 45, 64, 32769);
        Due.that("is an action", x.undo(), 4);
        Due.that("length undone", x.row(0, 0), 22);
        x.resize(0, 0);
        Due.that("write(0, 7, 2)", x.write(0, 7, 2), 1);
        x.resize(0, 6);
        Due.bits(x, 0, "110000");
    }

    private static void writeRefuses() {
        PackedBits x = Due.withRows(1);
        x.append(0, 1, 590);
        String before = Due.state(x);
        Due.that("write(1, 0, 1)", x.write(1, 0, 1), INVALID);
        Due.that("write(-1, 0, 1)", x.write(-1, 0, 1), INVALID);
        Due.that("write(0, -1, 1)", x.write(0, -1, 1), INVALID);
        Due.that("write(0, 65536, 1)", x.write(0, 65536, 1), INVALID);
        Due.that("write(0, 0, 0)", x.write(0, 0, 0), INVALID);
        Due.that("write(0, 0, 17)", x.write(0, 0, 17), INVALID);
        Due.that("write(0, 0, 11)", x.write(0, 0, 11), FULL);
        Due.that("write(0, 65536, 11)", x.write(0, 65536, 11), INVALID);
        Due.holds("a refused write changes nothing", before.equals(Due.state(x)));
        Due.that("write(0, 0, 10)", x.write(0, 0, 10), 3);
        Due.that("full", x.row(0, 0), 600);
    }

    private static void set() {
        PackedBits x = Due.withRows(1);
        x.append(0, 0, 31);
        Due.that("set(0, 0, 1)", x.set(0, 0, 1), 0);
        Due.that("set(0, 30, 1)", x.set(0, 30, 1), 0);
        Due.words(x, 0, 1, 32769, 1);
        Due.that("set(0, 30, 1) again", x.set(0, 30, 1), 1);
        Due.that("states", x.count(4), 5);
        Due.that("set(0, 0, 0)", x.set(0, 0, 0), 1);
        Due.words(x, 0, 32770, 1);
        Due.that("undo()", x.undo(), 4);
        Due.that("bit(0, 0) undone", x.bit(0, 0), 1);
    }

    private static void setRefuses() {
        PackedBits x = Due.withRows(2);
        x.append(0, 1, 5);
        String before = Due.state(x);
        Due.that("set(2, 0, 1)", x.set(2, 0, 1), INVALID);
        Due.that("set(-1, 0, 1)", x.set(-1, 0, 1), INVALID);
        Due.that("set(0, 5, 1)", x.set(0, 5, 1), INVALID);
        Due.that("set(0, -1, 1)", x.set(0, -1, 1), INVALID);
        Due.that("set(0, 4, 2)", x.set(0, 4, 2), INVALID);
        Due.that("set(0, 4, -1)", x.set(0, 4, -1), INVALID);
        Due.that("set(1, 0, 0)", x.set(1, 0, 0), INVALID);
        Due.holds("a refused set changes nothing", before.equals(Due.state(x)));
    }

    private static void resize() {
        PackedBits x = Due.withRows(1);
        Due.fill(x, 0, "11111111111111111");
        Due.that("resize(0, 16)", x.resize(0, 16), 17);
        Due.that("resize(0, 18)", x.resize(0, 18), 16);
        Due.bits(x, 0, "111111111111111100");
        Due.that("resize(0, 600)", x.resize(0, 600), 18);
        Due.words(x, 0, 49153, 1, 32788, 32786);
        Due.that("resize(0, 0)", x.resize(0, 0), 600);
        Due.words(x, 0);
        Due.that("resize(0, 0) again", x.resize(0, 0), 0);
        Due.that("undo()", x.undo(), 4);
        Due.that("undo()", x.undo(), 3);
        Due.that("ones undone", x.row(0, 5), 16);
        Due.that("resize(0, -1)", x.resize(0, -1), INVALID);
        Due.that("resize(0, 601)", x.resize(0, 601), INVALID);
        Due.that("resize(1, 5)", x.resize(1, 5), INVALID);
        Due.that("resize(-1, 5)", x.resize(-1, 5), INVALID);
        Due.that("states", x.count(4), 3);
        Due.that("length", x.row(0, 0), 600);
        x.resize(0, 2);
        x.resize(0, 5);
        Due.bits(x, 0, "11000");
    }

    private static void shortestForm() {
        PackedBits x = Due.withRows(1);
        x.append(0, 1, 299);
        Due.words(x, 0, 49171, 16383);
        x.append(0, 1, 1);
        Due.words(x, 0, 49172);
        x.append(0, 1, 15);
        Due.words(x, 0, 49172, 49153);
        x.append(0, 0, 1);
        Due.words(x, 0, 49172, 49153, 32769);
        x.set(0, 7, 0);
        Due.words(x, 0, 32767 - 128, 49172, 32769);
    }
}
