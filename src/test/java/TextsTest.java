/** Promises 11 to 14. */
final class TextsTest {
    private static final int INVALID = -1;

    public static void main(String[] args) {
        typeAndClear();
        values();
        precedence();
        shifts();
        spaces();
        nesting();
        longest();
        notAllowed();
        notThere();
        within();
        evaluateRefuses();
        failureIsKept();
        Due.finish("TextsTest");
    }

    private static void typeAndClear() {
        PackedBits x = new PackedBits();
        Due.that("type(0)", x.type(0), INVALID);
        Due.that("type(256)", x.type(256), INVALID);
        Due.that("type(-1)", x.type(-1), INVALID);
        Due.that("type(65584)", x.type(65584), INVALID);
        Due.that("type(1)", x.type(1), 1);
        Due.that("type(255)", x.type(255), 2);
        for (int length = 3; length <= 100; length++) {
            Due.that("type(48)", x.type(48), length);
        }
        Due.that("type(48)", x.type(48), -3);
        Due.that("type(256) into a full text", x.type(256), INVALID);
        Due.that("count(5)", x.count(5), 100);
        Due.that("no action", x.count(4), 0);
        Due.that("clearText()", x.clearText(), 100);
        Due.that("clearText()", x.clearText(), 0);
        Due.that("count(5)", x.count(5), 0);
        Due.that("type(48)", x.type(48), 1);
        Due.that("no action", x.count(4), 0);
    }

    /** Row 0 is 1100, row 1 is 10101, row 2 is empty; the result goes into row 3. */
    private static void gives(String text, String want) {
        PackedBits x = rows();
        Due.type(x, text);
        int size = x.evaluate(3);
        Due.that("evaluate(3) of " + text, size, x.row(3, 1));
        Due.bits(x, 3, want);
        Due.that("the text stays as it is", x.count(5), text.length());
        Due.that("no failure", x.failure(0), -9);
        Due.that("is an action", x.undo(), 4);
        Due.bits(x, 3, "1");
        Due.bits(x, 0, "1100");
        Due.bits(x, 1, "10101");
    }

    private static PackedBits rows() {
        PackedBits x = Due.withRows(4);
        x.write(0, 3, 4);
        x.write(1, 21, 5);
        x.write(3, 1, 1);
        return x;
    }

    private static void values() {
        gives("0", "1100");
        gives("2", "");
        gives("0|1", "11101");
        gives("0^1", "01101");
        gives("0&1", "10000");
        gives("0-1", "01000");
        gives("1-0", "00101");
        gives("~0", "0011");
        gives("~~0", "1100");
        gives("~2", "");
        gives("(0)", "1100");
        gives("((0|2))", "1100");
        gives("3", "1");
        PackedBits x = rows();
        Due.type(x, "3|0|3");
        Due.that("into a row that it reads", x.evaluate(3), 1);
        Due.bits(x, 3, "1100");
        Due.that("once more", x.evaluate(0), 1);
        Due.bits(x, 0, "1100");
    }

    private static void precedence() {
        gives("0|1&0", "11000");
        gives("1&0|0", "11000");
        gives("0^0|1", "10101");
        gives("1|0^0", "00101");
        gives("1-0&0", "00000");
        gives("1&0-0", "00000");
        gives("1-(0&0)", "00101");
        gives("~0&1", "00100");
        gives("~(0&1)", "01111");
        gives("~0>1", "011");
        gives("(0|1)&~(0&1)", "01101");
        gives("0^(1^(0^1))", "00000");
        gives("0-(1-(0-1))", "01000");
    }

    private static void shifts() {
        gives("0<2", "001100");
        gives("0>1", "100");
        gives("0<0", "1100");
        gives("0>600", "");
        gives("~2<3", "111");
        gives("0<1|1>1", "01110");
        gives("0<10", "00000000001100");
        PackedBits x = rows();
        Due.type(x, "0<600");
        Due.that("evaluate(0)", x.evaluate(0), 2);
        Due.that("length", x.row(0, 0), 600);
        Due.that("ones", x.row(0, 5), 0);
    }

    private static void spaces() {
        gives(" 0 ", "1100");
        gives("  0  |  1  ", "11101");
        gives(" ~ ( 0 > 1 ) - 1", "01000");
        gives("( ~ 0 )", "0011");
    }

    private static void nesting() {
        gives("((((((((0))))))))", "1100");
        gives("~~~~~~~~0", "1100");
        gives("~(~(~(~(0))))", "1100");
        gives("(((((((~0)))))))", "0011");
        gives("~0|~0|~0|~0|~0|~0|~0|~0|~0|~0", "0011");
        gives("(((((((0|(1))|(1))|(1))|(1))|(1))|(1))|(1))", "11101");
        fails("~~~~~~~~~0", 1, 8, 8);
        fails("(((((((((0", 1, 8, 8);
        fails("~(~(~(~((0", 1, 8, 8);
        fails("~(~(~(~(~0", 1, 8, 8);
        fails("((((((((0)|~~0", 1, 12, 8);
    }

    private static void longest() {
        StringBuilder sum = new StringBuilder("1");
        for (int parts = 1; parts < 50; parts++) {
            sum.append("^0");
        }
        gives(sum.toString(), "01101");
        fails(sum.append("^").toString(), 1, 100, 0);
        gives("0^1&(0^1&(0^1&(0^1&(0^1&(0^1&(0^1&(0^1&(0^1&0))))))))", deepValue());
    }

    /** The bits of 0^1&(..) with eight brackets, done by Java itself. */
    private static String deepValue() {
        int row0 = 3;
        int row1 = 21;
        int value = row0 ^ row1 & row0;
        for (int brackets = 0; brackets < 8; brackets++) {
            value = row0 ^ row1 & value;
        }
        StringBuilder bits = new StringBuilder();
        for (int place = 0; place < 5; place++) {
            bits.append(value >> place & 1);
        }
        return bits.toString();
    }

    private static void fails(String text, int kind, int place, int within) {
        PackedBits x = rows();
        Due.type(x, text);
        String before = Due.state(x);
        Due.that("evaluate(3) of " + text, x.evaluate(3), -1000 - place);
        Due.that("kind of " + text, x.failure(0), kind);
        Due.that("place of " + text, x.failure(1), place);
        Due.that("within of " + text, x.failure(2), within);
        Due.holds("a failure changes nothing: " + text, before.equals(Due.state(x)));
        Due.that("the text stays", x.count(5), text.length());
    }

    private static void notAllowed() {
        fails("", 1, 0, 0);
        fails("   ", 1, 3, 0);
        fails("x", 1, 0, 0);
        fails("0x", 1, 1, 0);
        fails("0 1", 1, 2, 0);
        fails("0 0|1", 1, 2, 0);
        fails("01", 1, 1, 0);
        fails("00", 1, 1, 0);
        fails("1234", 1, 3, 0);
        fails("0<05", 1, 3, 0);
        fails("0<6000", 1, 5, 0);
        fails("0<", 1, 2, 0);
        fails("0< ", 1, 3, 0);
        fails("0<-5", 1, 2, 0);
        fails("0<5<5", 1, 3, 0);
        fails("0<5>5", 1, 3, 0);
        fails("(0)<5", 1, 3, 0);
        fails("0<(5)", 1, 2, 0);
        fails("0|", 1, 2, 0);
        fails("0||1", 1, 2, 0);
        fails("|0", 1, 0, 0);
        fails("0~1", 1, 1, 0);
        fails("0(1)", 1, 1, 0);
        fails("0)", 1, 1, 0);
        fails(")", 1, 0, 0);
        fails("0&\t1", 1, 2, 0);
        fails("0" + (char) 1, 1, 1, 0);
        fails((char) 1 + "0", 1, 0, 0);
        fails("0" + (char) 160, 1, 1, 0);
        fails("0" + (char) 255, 1, 1, 0);
        fails("<5", 1, 0, 0);
        fails("0/", 1, 1, 0);
        fails("0:", 1, 1, 0);
        fails("0 + 1", 1, 2, 0);
    }

    private static void notThere() {
        fails("4", 2, 0, 0);
        fails("999", 2, 0, 0);
        fails("0|4", 2, 2, 0);
        fails(" 0 &  17", 2, 6, 0);
        fails("0<601", 2, 2, 0);
        fails("0>999", 2, 2, 0);
        fails("0 > 999", 2, 4, 0);
        fails("4<601", 2, 0, 0);
        fails("0<601|4", 2, 2, 0);
        fails("4|0<601", 2, 0, 0);
        fails("(~0|~4)", 2, 5, 2);
        fails("~(~0>601)", 2, 5, 3);
        fails("4|", 1, 2, 0);
        fails("4 x", 1, 2, 0);
        fails("(4<999", 1, 6, 1);
        PackedBits x = new PackedBits();
        x.make();
        Due.type(x, "1");
        Due.that("row 1 of one row", x.evaluate(0), -1000);
        x.make();
        Due.that("row 1 of two rows", x.evaluate(0), 0);
        x.undo();
        x.undo();
        Due.that("row 1 undone", x.evaluate(0), -1000);
    }

    private static void within() {
        fails("(", 1, 1, 1);
        fails("~", 1, 1, 1);
        fails("()", 1, 1, 1);
        fails("~)", 1, 1, 1);
        fails("~(0", 1, 3, 2);
        fails("~(~0", 1, 4, 2);
        fails("(0))", 1, 3, 0);
        fails("~0x", 1, 2, 0);
        fails("~0 x", 1, 3, 0);
        fails("~~(0)x", 1, 5, 0);
        fails("~0<", 1, 3, 1);
        fails("~0<x", 1, 3, 1);
        fails("~0<1x", 1, 4, 0);
        fails("~0|x", 1, 3, 0);
        fails("(~0|~~x", 1, 6, 3);
        fails("~(0|1)(", 1, 6, 0);
        fails("((0)|1", 1, 6, 1);
        // a digit too many still belongs to the number, and so to the factor
        fails("~01", 1, 2, 1);
        fails("~0<1234", 1, 6, 1);
        fails("~0 1", 1, 3, 0);
    }

    private static void evaluateRefuses() {
        PackedBits x = Due.withRows(1);
        Due.type(x, "x");
        Due.that("evaluate(1)", x.evaluate(1), INVALID);
        Due.that("evaluate(-1)", x.evaluate(-1), INVALID);
        Due.that("no failure of a text", x.failure(0), -9);
        Due.that("states", x.count(4), 1);
    }

    private static void failureIsKept() {
        PackedBits x = Due.withRows(1);
        Due.that("failure(0)", x.failure(0), -9);
        Due.that("failure(2)", x.failure(2), -9);
        Due.that("failure(3)", x.failure(3), INVALID);
        Due.that("failure(-1)", x.failure(-1), INVALID);
        Due.type(x, "(7)");
        Due.that("evaluate(0)", x.evaluate(0), -1001);
        Due.type(x, "0");
        Due.that("evaluate(0)", x.evaluate(0), 0);
        x.undo();
        x.clearText();
        Due.that("kind", x.failure(0), 2);
        Due.that("place", x.failure(1), 1);
        Due.that("within", x.failure(2), 1);
        Due.that("failure(3)", x.failure(3), INVALID);
        Due.that("evaluate(0) of nothing", x.evaluate(0), -1000);
        Due.that("the latest one", x.failure(0), 1);
        Due.that("place", x.failure(1), 0);
        Due.that("within", x.failure(2), 0);
    }
}
