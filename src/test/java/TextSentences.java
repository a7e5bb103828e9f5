import java.util.ArrayList;
import java.util.List;

/** Texts, and the promises 11 to 14; in the runs row 0 is 1100, row 1 is 10101 and row 2 is empty. */
final class TextSentences {
    private static final String[] ROWS = {"new", "make() = 0 1 2", "write(0, 3, 4) = 1", "write(1, 21, 5) = 1"};

    private TextSentences() {
    }

    static void tell() {
        type();
        clearText();
        evaluate();
        evaluateArguments();
        failure();
        within();
        atMostHundred();
        grammar();
        leftToRight();
        numbers();
        spaces();
        nesting();
        wholly();
        kinds();
        places();
    }

    private static void holds(int promise, String words, String[]... parts) {
        List<String> calls = new ArrayList<>();
        for (String[] part : parts) {
            calls.addAll(List.of(ROWS));
            calls.addAll(List.of(part));
        }
        Sentence.holds(promise, words, calls.toArray(new String[0]));
    }

    private static String typed(String text) {
        return "'" + text + "' = " + text.length();
    }

    /** The result has one word, or none if its length is 0. */
    private static String[] gives(String text, int length, int word) {
        return new String[] {typed(text), "evaluate(2) = " + (length == 0 ? 0 : 1), "row(2, 0) = " + length,
            "word(2, 0) = " + word, "word(2, 1) = -9", "failure(0) = -9", "count(4) = 5", "count(5) = " + text.length()};
    }

    private static String[] fails(String text, int kind, int place, int within) {
        return new String[] {typed(text), "evaluate(2) = " + (-1000 - place), "failure(0) = " + kind,
            "failure(1) = " + place, "failure(2) = " + within, "row(2, 0) = 0", "count(4) = 5",
            "count(5) = " + text.length(), "undo() = 4", "row(1, 0) = 0"};
    }

    private static void type() {
        Sentence.holds(11, "Appends a character to the text.", "make() = 0", "append(0, 1, 3) = 3", "type(126) = 1",
            "evaluate(0) = -1001", "type(48) = 2", "evaluate(0) = 1", "row(0, 5) = 0", "type(48) = 3",
            "evaluate(0) = -1002");
        Sentence.holds(11, "`character`: character code, 1 to 255", Edges.refusing(Edges.calls("count(5) = 0"), "type(#)",
            1, 255, "type(65584) = -1", "count(5) = 0", "type(1) = 1", "type(2) = 2", "type(255) = 3", "type(254) = 4",
            "type(0) = -1", "type(256) = -1", "count(5) = 4"));
        Sentence.holds(11, "Returns the new length of the text;", "type(32) = 1 2 3", "clearText() = 3", "type(32) = 1",
            "make() = 0", "undo() = 0", "type(48) = 2", "'" + "z".repeat(99) + "' = 99", "type(122) = 100");
        Sentence.holds(11, "INVALID_ARGUMENT if character is out of range;", "type(0) = -1", "type(256) = -1",
            "count(5) = 0", "'" + " ".repeat(100) + "' = 100", "type(0) = -1", "type(256) = -1", "type(1) = -3");
        Sentence.holds(11, "CAPACITY_EXCEEDED if the text already has 100 characters.", "'" + "~".repeat(98) + "' = 98",
            "type(48) = 99 100 -3 -3", "count(5) = 100", "make() = 0", "evaluate(0) = -1008", "clearText() = 100",
            "type(48) = 1", "evaluate(0) = 0");
    }

    private static void clearText() {
        Sentence.holds(12, "Makes the text empty.", "make() = 0", "clearText() = 0", "'~0' = 2", "evaluate(0) = 0",
            "clearText() = 2", "count(5) = 0", "evaluate(0) = -1000", "count(4) = 2", "type(48) = 1", "evaluate(0) = 0");
        Sentence.holds(12, "Returns the previous length of the text.", "clearText() = 0 0", "type(48) = 1",
            "clearText() = 1 0", "'" + "0".repeat(99) + "' = 99", "clearText() = 99 0", "'" + "0".repeat(100) + "' = 100",
            "type(48) = -3", "clearText() = 100 0", "count(4) = 0");
    }

    private static void evaluate() {
        holds(13, "Evaluates the text, which stays as it is, and puts the result into a row.", gives("0|1", 5, 23),
            new String[] {"'0|1' = 3", "evaluate(0) = 1 1", "count(5) = 3", "row(0, 0) = 5", "word(0, 0) = 23",
                "evaluate(2) = 1", "word(2, 0) = 23", "type(32) = 4", "type(120) = 5", "evaluate(2) = -1004",
                "count(5) = 5", "evaluate(2) = -1004", "word(1, 0) = 21"},
            new String[] {"'1&0|1-0' = 7", "evaluate(1) = 1", "row(1, 0) = 5", "word(1, 0) = 21", "word(0, 0) = 3"});
        holds(13, "If it does not fail, this is an action.", new String[] {"undo() = 4", "'0' = 1",
            "evaluate(2) = 1", "count(4) = 5", "row(2, 0) = 4", "undo() = 4", "row(2, 0) = 0"}, fails("0x", 1, 1, 0), fails("9", 2, 0, 0));
        holds(13, "Returns the size of the result;", gives("2", 0, -9), gives("2<1", 1, 32769),
            new String[] {"'2<599' = 5", "evaluate(2) = 2", "'2<600' = 5", "evaluate(2) = 2", "resize(2, 0) = 600",
                "'~2<599' = 6", "evaluate(2) = 3", "resize(2, 0) = 599", "'~2<600' = 6", "evaluate(2) = 2",
                "resize(2, 0) = 600", "'~2<300' = 6", "evaluate(2) = 1", "resize(2, 0) = 300", "'~2<301' = 6",
                "evaluate(2) = 2"});
        holds(13, "-1000 minus the place of the failure if it fails.", new String[] {"'' = 0", "evaluate(2) = -1000",
            "type(48) = 1", "evaluate(2) = 1", "type(48) = 2", "evaluate(2) = -1001", "clearText() = 2",
            "'9' = 1", "evaluate(2) = -1000", typed("0|".repeat(50)), "evaluate(2) = -1100",
            typed("0" + " ".repeat(98) + "x"), "evaluate(2) = -1099"});
    }

    private static void evaluateArguments() {
        String[] refused = Edges.refusing(Edges.calls("'0' = 1", "evaluate(0) = -1", "make() = 0", "evaluate(0) = 0",
            "evaluate(1) = -1", "make() = 1 2 3 4 5 6"), "evaluate(#)", 0, 6, "make() = 7", "evaluate(7) = 0",
            "evaluate(8) = -1", "evaluate(0) = 0", "make() = -3", "evaluate(8) = -1", "failure(0) = -9");
        Sentence.holds(13, "`into`: a row", refused);
        Sentence.holds(13, "INVALID_ARGUMENT if there is no such row;", "'x' = 1", "evaluate(0) = -1", "failure(0) = -9",
            "make() = 0", "evaluate(-1) = -1", "evaluate(1) = -1", "failure(0) = -9", "evaluate(0) = -1000",
            "failure(0) = 1", "'9' = 1", "evaluate(1) = -1", "failure(0) = 1", "evaluate(0) = -1000", "failure(0) = 2",
            "undo() = 0", "evaluate(0) = -1");
    }

    private static void failure() {
        Sentence.holds(14, "Returns a part of the latest failure of a text.", "make() = 0", "'(9)' = 3",
            "evaluate(0) = -1001", "failure(0) = 2", "failure(1) = 1", "failure(2) = 1", "'0' = 1", "evaluate(0) = 0",
            "failure(0) = 2", "failure(1) = 1", "failure(2) = 1", "'0|0|~~x' = 7", "evaluate(0) = -1006",
            "failure(0) = 1", "failure(1) = 6", "failure(2) = 2", "clearText() = 7", "failure(1) = 6",
            "evaluate(0) = -1000", "failure(0) = 1", "failure(1) = 0", "failure(2) = 0");
        Sentence.holds(14, "`what`: 0 its kind, 1 its place, 2 the number", Edges.refusing(Edges.calls("make() = 0",
            "'(((9)))' = 7", "evaluate(0) = -1003"), "failure(#)", 0, 2, "failure(0) = 2", "failure(1) = 3",
            "failure(2) = 3"));
        Sentence.holds(14, "Returns the part;", "make() = 0", "'0&(' = 3", "evaluate(0) = -1003", "failure(0) = 1",
            "failure(1) = 3", "failure(2) = 1");
        Sentence.holds(14, "INVALID_ARGUMENT if what is out of range;", "failure(-1) = -1", "failure(3) = -1",
            "failure(2) = -9", "make() = 0", "evaluate(0) = -1000", "failure(-1) = -1", "failure(3) = -1",
            "failure(2) = 0");
        Sentence.holds(14, "NONE if there was no failure yet.", "failure(0) = -9", "failure(1) = -9", "failure(2) = -9",
            "make() = 0", "append(0, 1, 601) = -1", "type(0) = -1", "failure(0) = -9", "'0' = 1", "evaluate(1) = -1",
            "evaluate(0) = 0", "failure(0) = -9", "type(120) = 2", "failure(0) = -9", "evaluate(0) = -1001",
            "failure(0) = 1");
    }

    private static void within() {
        String number = "2 the number of \"(\" and \"~\" within which this place stands";
        holds(14, number, fails("x", 1, 0, 0), fails("(x", 1, 1, 1), fails("~x", 1, 1, 1), fails("((x", 1, 2, 2),
            fails("~(~x", 1, 3, 3), fails("0&~x", 1, 3, 1), fails("(0|~", 1, 4, 2), fails("(", 1, 1, 1),
            fails("(0x)", 1, 2, 1), fails("(0)x", 1, 3, 0), fails("(0))", 1, 3, 0), fails("((0)x", 1, 4, 1));
        holds(14, number, fails("9", 2, 0, 0), fails("(9)", 2, 1, 1), fails("~9", 2, 1, 1), fails("(0)|9", 2, 4, 0),
            fails("(0<601)", 2, 3, 1), fails("((0)|(1<601))", 2, 8, 2), fails("((((((((9))))))))", 2, 8, 8));
        holds(14, "(a \"~\" ends with its factor; a sign that is nested too deep is not counted)", fails("~0x", 1, 2, 0),
            fails("~0 1", 1, 3, 0), fails("~0|x", 1, 3, 0), fails("~0<x", 1, 3, 1), fails("~0<601", 2, 3, 1),
            fails("~0<1x", 1, 4, 0), fails("~0|9", 2, 3, 0), fails("~(0)x", 1, 4, 0), fails("~(0x", 1, 3, 2),
            fails("(~0x", 1, 3, 1), fails("~~~0&x", 1, 5, 0), fails("~(~0|x", 1, 5, 2), fails("~(~0)|9", 2, 6, 0));
        holds(14, "a sign that is nested too deep is not counted", fails("~~~~~~~~x", 1, 8, 8),
            fails("~~~~~~~~~x", 1, 8, 8), fails("~~~~~~~~~~", 1, 8, 8), fails("((((((((x", 1, 8, 8),
            fails("(((((((((x", 1, 8, 8), fails("~(~(~(~((", 1, 8, 8), fails("~0&(((((((((0", 1, 11, 8));
    }

    private static void atMostHundred() {
        holds(13, "A text of at most 100 characters can be evaluated as an expression", gives("0|".repeat(49) + "1", 5, 23),
            gives("0|".repeat(49) + "~1", 5, 11), fails("0|".repeat(50), 1, 100, 0), gives(" ".repeat(99) + "0", 4, 3),
            fails("0" + " ".repeat(98) + "x", 1, 99, 0), fails(" ".repeat(99), 1, 99, 0), fails(" ".repeat(100), 1, 100, 0),
            fails(" ".repeat(99) + "9", 2, 99, 0), fails("0" + "^1".repeat(49) + "~", 1, 99, 0));
    }

    private static void grammar() {
        holds(13, "expression = term { (\"|\" | \"^\") term }", gives("0", 4, 3), gives("0|1", 5, 23), gives("0^1", 5, 22),
            gives("0&1|1-0", 5, 21), gives("1|0&0", 5, 23), gives("1^0-0", 5, 21), fails("|0", 1, 0, 0),
            fails("0|", 1, 2, 0), fails("0||1", 1, 2, 0), fails("0 1", 1, 2, 0), fails("0~1", 1, 1, 0));
        holds(13, "term = factor { (\"&\" | \"-\") factor }", gives("0&1", 5, 1), gives("0-1", 5, 2), gives("1-0", 5, 20),
            gives("~0&~1", 5, 8), fails("&0", 1, 0, 0), fails("-0", 1, 0, 0), fails("0-", 1, 2, 0), fails("0&-1", 1, 2, 0),
            fails("0&|1", 1, 2, 0), fails("0|&1", 1, 2, 0));
        holds(13, "factor = \"~\" factor | \"(\" expression \")\" | number [ \"<\" number | \">\" number ]",
            gives("~0", 4, 12), gives("~~0", 4, 3), gives("~2", 0, -9), gives("(0)", 4, 3), gives("((1))", 5, 21),
            gives("~(0|1)", 5, 8), gives("~0|1", 5, 29), gives("~0<1", 5, 25), fails("()", 1, 1, 1), fails(")", 1, 0, 0),
            fails("0)", 1, 1, 0), fails("(0", 1, 2, 1), fails("0(1)", 1, 1, 0), fails("<1", 1, 0, 0), fails("~", 1, 1, 1));
        holds(13, "A number in front is a row;", gives("0", 4, 3), gives("2", 0, -9), fails("3", 2, 0, 0),
            fails("999", 2, 0, 0), new String[] {"make() = 3 4 5 6 7", "'7' = 1", "evaluate(2) = 0", "'8' = 1",
                "evaluate(2) = -1000", "failure(0) = 2", "undo() = 4 3", "'7' = 1", "evaluate(2) = -1000",
                "'6' = 1", "evaluate(2) = 0"});
        holds(13, "\"<\" and a number shift it by as much, \">\" and a number by as much in the other direction (by minus as"
            + " much);", gives("0<0", 4, 3), gives("0<1", 5, 6), gives("0>0", 4, 3), gives("0>1", 3, 1), gives("1>4", 1, 1),
            gives("1>5", 0, -9), gives("1>600", 0, -9), gives("1<10", 15, 21504), new String[] {"'0<599' = 5",
                "evaluate(2) = 3", "row(2, 0) = 600", "row(2, 5) = 1", "row(2, 6) = 599", "'0<600' = 5", "evaluate(2) = 2",
                "row(2, 0) = 600", "row(2, 5) = 0"}, fails("0<601", 2, 2, 0), fails("0>601", 2, 2, 0));
        holds(13, "a shift stands behind the number of a row alone.", gives("(0<1)", 5, 6), fails("(0)<1", 1, 3, 0),
            fails("(0<1)<1", 1, 5, 0), fails("0<1<1", 1, 3, 0), fails("0>1<1", 1, 3, 0), fails("0<(1)", 1, 2, 0),
            fails("0<~1", 1, 2, 0), fails("0<>1", 1, 2, 0), fails("0<-1", 1, 2, 0), gives("0|1<1", 6, 43));
    }

    private static void leftToRight() {
        holds(13, "\"|\" is or, \"^\" either, \"&\" and, \"-\" without, \"~\" not.", gives("0|1", 5, 23), gives("0^1", 5, 22),
            gives("0&1", 5, 1), gives("0-1", 5, 2), gives("~0", 4, 12));
        holds(13, "Operations of the same line are done from left to right.", gives("0|1^0", 5, 20), gives("1^0|0", 5, 23),
            gives("1-0-1", 5, 32769), gives("0-0-0", 4, 32769), gives("1-1&0", 5, 32769), gives("0|(1^0)", 5, 23),
            gives("1^(0|0)", 5, 22), gives("1-(0-1)", 5, 21), gives("1-(1&0)", 5, 20));
    }

    private static void numbers() {
        holds(13, "A number is 1 to 3 digits, the first of several not 0.", gives("0<9", 13, 1536), gives("0<10", 14, 3072),
            gives("0>10", 0, -9), gives("0>100", 0, -9), fails("10", 2, 0, 0), fails("100", 2, 0, 0), fails("1000", 1, 3, 0),
            fails("00", 1, 1, 0), fails("01", 1, 1, 0), fails("000", 1, 1, 0), fails("0<00", 1, 3, 0),
            fails("0<05", 1, 3, 0), fails("0<1000", 1, 5, 0), fails("0<6000", 1, 5, 0), fails("0<", 1, 2, 0));
        holds(13, "A number is 1 to 3 digits", gives("1<0", 5, 21), fails("0/", 1, 1, 0), fails("0:", 1, 1, 0),
            fails("/", 1, 0, 0), fails(":", 1, 0, 0), fails("0<999", 2, 2, 0), fails("0" + (char) 178, 1, 1, 0));
    }

    private static void spaces() {
        holds(13, "Spaces may stand in front of and behind each sign and number, but not within a number.",
            gives(" 0 | 1 ", 5, 23), gives("  ~  (  0  <  1  )  ", 5, 25), gives("0 <1", 5, 6), gives("0> 1", 3, 1),
            gives(" ~ ~ 0 - ( 1 ) ^ 0 & 1", 5, 3), fails("1 0", 1, 2, 0), fails("0<1 0", 1, 4, 0), fails("0< 1 0", 1, 5, 0),
            fails("1 00", 1, 2, 0), fails("0\t", 1, 1, 0), fails("0\n|1", 1, 1, 0), fails("0" + (char) 160, 1, 1, 0),
            fails((char) 1 + "0", 1, 0, 0), fails("0" + (char) 1, 1, 1, 0));
    }

    private static void nesting() {
        String deep = "Brackets and \"~\" are nested at most 8 deep together.";
        holds(13, deep, gives("~~~~~~~0", 4, 12), gives("~~~~~~~~0", 4, 3), fails("~~~~~~~~~0", 1, 8, 8),
            gives("(((((((0)))))))", 4, 3), gives("((((((((0))))))))", 4, 3), fails("(((((((((0)))))))))", 1, 8, 8),
            gives("~(~(~(~(0))))", 4, 3), fails("~(~(~(~(~0))))", 1, 8, 8), gives("~~~~~~~(0)", 4, 12),
            fails("~~~~~~~((0))", 1, 8, 8), fails("~~~~~~~~(0)", 1, 8, 8), fails("((((((((~0))))))))", 1, 8, 8));
        holds(13, deep, gives("(0)|(0)|(0)|(0)|(0)|(0)|(0)|(0)|(0)", 4, 3),
            gives("~0|~0|~0|~0|~0|~0|~0|~0|~0", 4, 12), gives("((((((((0))))))))|((((((((1))))))))", 5, 23),
            gives("~~~~~~~~0|~~~~~~~~1", 5, 23), fails("~~~~~~~~0|~~~~~~~~~1", 1, 18, 8),
            gives("(((((((~0|~1)))))))", 5, 14), fails("(((((((~0|~(1))))))))", 1, 11, 8),
            gives("0^1&(0^1&(0^1&(0^1&(0^1&(0^1&(0^1&(0^1&(0^1&0))))))))", 5, 2));
    }

    private static void wholly() {
        holds(13, "The text is read wholly before anything is done, so a failure of the kind 1 comes ahead of any of the"
            + " kind 2;", fails("9", 2, 0, 0), fails("9|", 1, 2, 0), fails("9x", 1, 1, 0), fails("9 9", 1, 2, 0),
            fails("(9", 1, 2, 1), fails("9)", 1, 1, 0), fails("0<601x", 1, 5, 0), fails("9<", 1, 2, 0),
            fails("9|~~~~~~~~~0", 1, 10, 8), fails("~(9)|00", 1, 6, 0), fails("9<601|0<1000", 1, 11, 0));
        holds(13, "an empty text fails with the kind 1 at the place 0.", fails("", 1, 0, 0), fails(" ", 1, 1, 0),
            fails("   ", 1, 3, 0), new String[] {"evaluate(2) = -1000", "failure(0) = 1", "failure(1) = 0", "failure(2) = 0",
                "type(48) = 1", "evaluate(2) = 1", "clearText() = 1", "evaluate(2) = -1000"});
    }

    private static void kinds() {
        String one = "A failure is of the kind 1 if a character is not allowed where it stands (also a digit too many, be it"
            + " one behind a 0, and a \"(\" or \"~\" nested too deep)";
        holds(14, one, fails("x", 1, 0, 0), fails("0x", 1, 1, 0), fails("0&x", 1, 2, 0), fails("A", 1, 0, 0),
            fails("1234", 1, 3, 0), fails("01", 1, 1, 0), fails("0<1234", 1, 5, 0), fails("0<01", 1, 3, 0),
            fails("123", 2, 0, 0), fails("(((((((((0", 1, 8, 8), fails("~~~~~~~~~0", 1, 8, 8), fails("0!", 1, 1, 0));
        holds(14, "and of the kind 2 if a row that is told does not exist, or a shift is by more than 600 (the one that"
            + " stands first).", fails("3", 2, 0, 0), fails("0<601", 2, 2, 0), fails("0>601", 2, 2, 0), fails("3|4", 2, 0, 0),
            fails("0|4&3", 2, 2, 0), fails("3<601", 2, 0, 0), fails("0<601|3", 2, 2, 0), fails("3|0<601", 2, 0, 0),
            fails("0>999|0<601", 2, 2, 0), fails("~(3|4)", 2, 2, 2), fails("2<600|2>600|4", 2, 12, 0));
        holds(14, "a shift is by more than 600", gives("0>599", 0, -9), gives("0>600", 0, -9), fails("0>601", 2, 2, 0),
            new String[] {"'0<600' = 5", "evaluate(2) = 2", "failure(0) = -9"}, fails("0<999", 2, 2, 0));
    }

    private static void places() {
        String place = "Its place is the offset (from 0) of this character, of the first digit of the row or of the number of"
            + " the shift, or the length of the text if it ends where something is missing.";
        holds(14, place, fails("x0", 1, 0, 0), fails("0|x1", 1, 2, 0), fails("  x", 1, 2, 0), fails("0 |  x", 1, 5, 0),
            fails(" 17", 2, 1, 0), fails("0|100", 2, 2, 0), fails("0<  601", 2, 4, 0), fails("0 > 999 |1", 2, 4, 0),
            fails("  17 < 601", 2, 2, 0));
        holds(14, "or the length of the text if it ends where something is missing.", fails("", 1, 0, 0),
            fails("0|", 1, 2, 0), fails("0| ", 1, 3, 0), fails("0&", 1, 2, 0), fails("0<", 1, 2, 0), fails("0<  ", 1, 4, 0),
            fails("(", 1, 1, 1), fails("(0", 1, 2, 1), fails("(0  ", 1, 4, 1), fails("~", 1, 1, 1), fails("~ ", 1, 2, 1),
            fails("(~(0)", 1, 5, 1), gives("0 ", 4, 3), gives("(0) ", 4, 3));
    }
}
