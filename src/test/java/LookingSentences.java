/** The promises 15 to 23. */
final class LookingSentences {
    private static final String ROW = "`row`: a row";
    private static final String OUT_OF_RANGE = "INVALID_ARGUMENT if an argument is out of range.";
    private static final String NO_ROW_OR_NEGATIVE = "INVALID_ARGUMENT if there is no such row or index is negative;";
    // 21 zero groups, 3 one groups, a literal of 5 ones, 5 zeros and 1 one, 2 zero groups; 401 bits
    private static final String[] MANY_WORDS = {"make() = 0", "append(0, 0, 315) = 315", "append(0, 1, 50) = 365",
        "append(0, 0, 5) = 370", "append(0, 1, 1) = 371", "append(0, 0, 30) = 401"};

    private LookingSentences() {
    }

    static void tell() {
        count();
        row();
        rowArguments();
        word();
        bit();
        rank();
        select();
        selectArguments();
        would();
        wouldArguments();
        same();
        bestShift();
        bestShiftLoses();
        changesNothing();
    }

    private static String[] andThen(String... calls) {
        String[] all = new String[MANY_WORDS.length + calls.length];
        System.arraycopy(MANY_WORDS, 0, all, 0, MANY_WORDS.length);
        System.arraycopy(calls, 0, all, MANY_WORDS.length, calls.length);
        return all;
    }

    private static void count() {
        String what = "`what`: 0 the number of rows, 1 the sum of their lengths, 2 of their sizes, 3 the number of ones in"
            + " all rows, 4 of states in the history, 5 the length of the text";
        Sentence.holds(15, what, "count(0) = 0", "count(1) = 0", "count(2) = 0", "count(3) = 0", "count(4) = 0",
            "count(5) = 0", "make() = 0 1 2 3 4 5 6 7", "count(0) = 8", "count(1) = 0", "count(2) = 0", "append(0, 0, 1) = 1",
            "count(1) = 1", "count(2) = 1", "count(3) = 0", "append(7, 1, 600) = 600", "count(1) = 601", "count(2) = 3",
            "count(3) = 600", "count(4) = 5", "type(48) = 1", "count(5) = 1", "undo() = 4", "count(1) = 1", "count(2) = 1",
            "count(3) = 0", "count(4) = 4", "count(5) = 1");
        Sentence.holds(15, what, "make() = 0 1 2 3 4 5 6 7", "append(0, 1, 600) = 600", "append(1, 1, 600) = 600",
            "append(2, 1, 600) = 600", "append(3, 1, 600) = 600", "append(4, 1, 600) = 600", "append(5, 1, 600) = 600",
            "append(6, 1, 600) = 600", "append(7, 1, 599) = 599", "count(1) = 4799", "count(2) = 17", "count(3) = 4799",
            "append(7, 1, 1) = 600", "count(1) = 4800", "count(2) = 16", "count(3) = 4800");
        Sentence.holds(15, "INVALID_ARGUMENT if what is out of range.", Edges.refusing(Edges.calls("make() = 0",
            "type(48) = 1"), "count(#)", 0, 5, "count(0) = 1", "count(5) = 1"));
        Sentence.holds(15, "Returns a number.", "count(4) = 0", "make() = 0", "count(4) = 1", "make() = 1 2 3 4", "count(4) = 5",
            "make() = 5", "count(4) = 5", "count(0) = 6", "'" + "0".repeat(100) + "' = 100", "type(48) = -3",
            "count(5) = 100", "clearText() = 100", "count(5) = 0");
        Sentence.holds(15, "Returns the number;", "make() = 0 1", "append(1, 1, 16) = 16", "count(0) = 2", "count(1) = 16",
            "count(2) = 2", "count(3) = 16", "count(4) = 3", "count(5) = 0");
    }

    private static void row() {
        String what = "`what`: 0 its length, 1 its size, 2 the number of its literals, 3 of its fills of zeros, 4 of its fills"
            + " of ones, 5 the number of its ones, 6 the place of its first one and 7 of its last one (NONE without ones)";
        Sentence.holds(16, what, andThen("row(0, 0) = 401", "row(0, 1) = 5", "row(0, 2) = 1", "row(0, 3) = 3", "row(0, 4) = 1",
            "row(0, 5) = 51", "row(0, 6) = 315", "row(0, 7) = 370"));
        Sentence.holds(16, what, "make() = 0", "row(0, 0) = 0", "row(0, 1) = 0", "row(0, 2) = 0", "row(0, 3) = 0",
            "row(0, 4) = 0", "row(0, 5) = 0", "row(0, 6) = -9", "row(0, 7) = -9", "append(0, 1, 600) = 600", "row(0, 0) = 600",
            "row(0, 1) = 2", "row(0, 2) = 0", "row(0, 3) = 0", "row(0, 4) = 2", "row(0, 5) = 600", "row(0, 6) = 0",
            "row(0, 7) = 599", "not(0) = 0", "row(0, 3) = 2", "row(0, 4) = 0");
        Sentence.holds(16, "6 the place of its first one and 7 of its last one (NONE without ones)", "make() = 0",
            "row(0, 6) = -9", "append(0, 0, 600) = 600", "row(0, 6) = -9", "row(0, 7) = -9", "set(0, 599, 1) = 0",
            "row(0, 6) = 599", "row(0, 7) = 599", "set(0, 0, 1) = 0", "row(0, 6) = 0", "row(0, 7) = 599",
            "set(0, 599, 0) = 1", "row(0, 7) = 0", "set(0, 14, 1) = 0", "row(0, 7) = 14", "set(0, 15, 1) = 0",
            "row(0, 7) = 15", "set(0, 0, 0) = 1", "row(0, 6) = 14", "set(0, 14, 0) = 1", "row(0, 6) = 15",
            "set(0, 15, 0) = 1", "row(0, 6) = -9", "row(0, 7) = -9");
    }

    private static void rowArguments() {
        Edges.row(16, ROW, "row(#, 5)", 3);
        Edges.row(16, "INVALID_ARGUMENT if there is no such row or what is out of range.", "row(#, 0)", 3);
        Sentence.holds(16, "INVALID_ARGUMENT if there is no such row or what is out of range.", Edges.refusing(Edges.calls(
            "row(0, 0) = -1", "row(0, 8) = -1", "make() = 0"), "row(0, #)", 0, 7, "row(0, 0) = 0", "row(0, 7) = -9",
            "row(1, 7) = -1", "row(-1, -1) = -1"));
        Sentence.holds(16, "Returns a property of a row.", "make() = 0 1", "append(1, 1, 15) = 15", "row(0, 0) = 0",
            "row(1, 0) = 15", "row(1, 4) = 1", "row(0, 4) = 0");
        Sentence.holds(16, "Returns the property;", "make() = 0", "append(0, 1, 14) = 14", "row(0, 2) = 1", "row(0, 4) = 0",
            "append(0, 1, 1) = 15", "row(0, 2) = 0", "row(0, 4) = 1");
    }

    private static void word() {
        Edges.row(17, ROW, "word(#, 0)", 7);
        Sentence.holds(17, "`index`: 0 for its first word, and so on", andThen("word(0, 0) = 32788", "word(0, 1) = 32769",
            "word(0, 2) = 49155", "word(0, 3) = 1055", "word(0, 4) = 32770", "word(0, 5) = -9", "word(0, -1) = -1"));
        Sentence.holds(17, "Returns the code of a word.", andThen("word(0, 3) = 1055", "not(0) = 350", "word(0, 0) = 49172",
            "word(0, 1) = 49153", "word(0, 2) = 32771", "word(0, 3) = 31712", "word(0, 4) = 49153", "word(0, 5) = 2047"));
        Sentence.holds(17, "Returns the code;", "make() = 0", "write(0, 16384, 15) = 1", "word(0, 0) = 16384");
        Sentence.holds(17, NO_ROW_OR_NEGATIVE, "word(0, 0) = -1", "make() = 0", "word(0, 0) = -9", "word(0, -1) = -1",
            "word(1, 0) = -1", "word(-1, 0) = -1", "word(0, -2147483648) = -1", "word(1, 2147483647) = -1",
            "append(0, 0, 1) = 1", "word(0, 0) = 32769", "word(0, -1) = -1");
        Sentence.holds(17, "NONE if there are not so many words.", "make() = 0", "word(0, 0) = -9", "append(0, 1, 300) = 300",
            "word(0, 0) = 49172", "word(0, 1) = -9", "append(0, 1, 1) = 301", "word(0, 1) = 1", "word(0, 2) = -9",
            "word(0, 39) = -9", "word(0, 40) = -9", "word(0, 2147483647) = -9", "resize(0, 0) = 301", "word(0, 0) = -9");
        Sentence.holds(17, "NONE if there are not so many words.", "make() = 0", "write(0, 1, 15) = 1", "'0|0<15' = 6",
            "evaluate(0) = 2", "'0|0<30' = 6", "evaluate(0) = 4", "'0|0<60' = 6", "evaluate(0) = 8", "'0|0<120' = 7",
            "evaluate(0) = 16", "'0|0<240' = 7", "evaluate(0) = 32", "'0|0<120' = 7", "evaluate(0) = 40", "row(0, 1) = 40",
            "word(0, 39) = 1", "word(0, 40) = -9");
    }

    private static void bit() {
        Edges.row(18, ROW, "bit(#, 2)", 1);
        Sentence.holds(18, "`at`: a place, less than the length", Edges.refusing(Edges.calls("make() = 0", "bit(0, 0) = -1",
            "append(0, 1, 1) = 1", "bit(0, 0) = 1", "bit(0, 1) = -1"), "bit(0, #)", 0, 0, "append(0, 0, 13) = 14",
            "bit(0, 14) = -1", "append(0, 1, 1) = 15", "bit(0, 13) = 0", "bit(0, 14) = 1", "bit(0, 15) = -1",
            "append(0, 1, 584) = 599", "bit(0, 598) = 1", "bit(0, 599) = -1", "append(0, 0, 1) = 600", "bit(0, 599) = 0",
            "bit(0, 600) = -1", "resize(0, 14) = 600", "bit(0, 13) = 0", "bit(0, 14) = -1"));
        Sentence.holds(18, "Returns a bit.", "make() = 0 1", "append(0, 1, 2) = 2", "append(1, 0, 2) = 2", "bit(0, 1) = 1",
            "bit(1, 1) = 0");
        Sentence.holds(18, "Returns 0 or 1;", "make() = 0", "write(0, 32769, 16) = 2", "bit(0, 0) = 1", "bit(0, 1) = 0",
            "bit(0, 14) = 0", "bit(0, 15) = 1", "not(0) = 14", "bit(0, 0) = 0", "bit(0, 14) = 1", "bit(0, 15) = 0");
        Sentence.holds(18, OUT_OF_RANGE, "bit(0, 0) = -1", "make() = 0", "append(0, 1, 1) = 1", "bit(1, 0) = -1",
            "bit(0, 1) = -1", "bit(-1, -1) = -1", "bit(0, 0) = 1");
    }

    private static void rank() {
        Edges.row(19, ROW, "rank(#, 2)", 2);
        Sentence.holds(19, "`at`: 0 to the length", Edges.refusing(Edges.calls("make() = 0", "rank(0, 0) = 0",
            "rank(0, 1) = -1", "append(0, 1, 1) = 1"), "rank(0, #)", 0, 1, "rank(0, 0) = 0", "rank(0, 1) = 1",
            "append(0, 1, 14) = 15", "rank(0, 14) = 14", "rank(0, 15) = 15", "rank(0, 16) = -1", "append(0, 1, 585) = 600",
            "rank(0, 16) = 16", "rank(0, 599) = 599", "rank(0, 600) = 600", "rank(0, 601) = -1", "not(0) = 0",
            "rank(0, 600) = 0"));
        Sentence.holds(19, "Counts the ones before a place.", "make() = 0", "append(0, 0, 14) = 14", "append(0, 1, 2) = 16",
            "append(0, 0, 14) = 30", "rank(0, 14) = 0", "rank(0, 15) = 1", "rank(0, 16) = 2", "rank(0, 30) = 2",
            "append(0, 1, 1) = 31", "rank(0, 30) = 2", "rank(0, 31) = 3");
        Sentence.holds(19, "Returns the number;", "make() = 0", "append(0, 1, 20) = 20", "rank(0, 0) = 0", "rank(0, 19) = 19",
            "rank(0, 20) = 20");
        Sentence.holds(19, OUT_OF_RANGE, "rank(0, 0) = -1", "make() = 0", "rank(0, 0) = 0", "rank(1, 0) = -1",
            "rank(0, -1) = -1", "rank(0, 1) = -1", "rank(-1, -1) = -1");
    }

    private static void select() {
        Sentence.holds(20, "Finds the place of a one.", "make() = 0", "append(0, 0, 31) = 31", "set(0, 14, 1) = 0",
            "set(0, 15, 1) = 0", "set(0, 30, 1) = 0", "select(0, 0) = 14", "select(0, 1) = 15", "select(0, 2) = 30",
            "select(0, 3) = -9", "set(0, 0, 1) = 0", "select(0, 0) = 0", "select(0, 3) = 30", "select(0, 4) = -9");
        Sentence.holds(20, "Returns the place;", "make() = 0", "append(0, 1, 600) = 600", "select(0, 0) = 0",
            "select(0, 14) = 14", "select(0, 15) = 15", "select(0, 598) = 598", "select(0, 599) = 599", "select(0, 600) = -9");
        Sentence.holds(20, "NONE if there are not so many ones.", "make() = 0", "select(0, 0) = -9", "append(0, 0, 600) = 600",
            "select(0, 0) = -9", "set(0, 599, 1) = 0", "select(0, 0) = 599", "select(0, 1) = -9", "select(0, 599) = -9",
            "select(0, 2147483647) = -9", "set(0, 599, 0) = 1", "select(0, 0) = -9");
    }

    private static void selectArguments() {
        Edges.row(20, ROW, "select(#, 2)", 2);
        Sentence.holds(20, "`index`: 0 for the first one, and so on", "make() = 0", "write(0, 44, 6) = 1", "select(0, 0) = 2",
            "select(0, 1) = 3", "select(0, 2) = 5", "select(0, 3) = -9", "select(0, -1) = -1");
        Sentence.holds(20, NO_ROW_OR_NEGATIVE, "select(0, 0) = -1", "make() = 0", "select(0, 0) = -9", "select(0, -1) = -1",
            "select(1, 0) = -1", "select(-1, 0) = -1", "select(0, -2147483648) = -1", "select(1, 2147483647) = -1",
            "append(0, 1, 1) = 1", "select(0, 0) = 0", "select(0, -1) = -1", "select(1, 0) = -1");
    }

    private static void would() {
        String what = "`what`: 0 its work, 1 the size of the result, 2 the number of ones of the result";
        String[] calls = {"make() = 0 1 2", "append(0, 1, 45) = 45", "append(1, 0, 15) = 15", "append(1, 1, 30) = 45",
            "would(0, 0, 1, 0) = 2", "would(0, 0, 1, 1) = 2", "would(0, 0, 1, 2) = 30", "would(1, 0, 1, 0) = 2",
            "would(1, 0, 1, 1) = 1", "would(1, 0, 1, 2) = 45", "would(2, 0, 1, 1) = 2", "would(2, 0, 1, 2) = 15",
            "would(2, 1, 0, 1) = 1", "would(2, 1, 0, 2) = 0", "would(3, 0, 1, 1) = 2", "would(3, 0, 1, 2) = 15",
            "would(3, 0, 2, 0) = 1", "would(3, 2, 0, 1) = 1", "would(3, 2, 0, 2) = 45", "would(3, 2, 2, 0) = 0",
            "would(3, 2, 2, 1) = 0", "would(3, 2, 2, 2) = 0"};
        Sentence.holds(21, what, Edges.refusing(calls, "would(0, 0, 1, #)", 0, 2, "would(0, 0, 1, 0) = 2",
            "would(0, 0, 1, 2) = 30"));
        Sentence.holds(21, "Tells something of an operation of two rows.", "make() = 0 1 2", "write(0, 12, 4) = 1",
            "write(1, 26, 5) = 1", "would(0, 0, 1, 2) = 1", "would(1, 0, 1, 2) = 4", "would(2, 0, 1, 2) = 1",
            "would(2, 1, 0, 2) = 2", "would(3, 0, 1, 2) = 3", "row(0, 5) = 2", "row(1, 5) = 3", "row(2, 0) = 0",
            "count(4) = 5", "undo() = 4", "row(1, 0) = 0");
        Sentence.holds(21, "Returns it;", "make() = 0 1", "append(0, 1, 600) = 600", "would(1, 0, 1, 0) = 2",
            "would(1, 0, 1, 1) = 2", "would(1, 0, 1, 2) = 600", "operate(1, 1, 0, 1) = 2", "row(1, 1) = 2", "row(1, 5) = 600",
            "would(3, 0, 1, 2) = 0", "would(3, 0, 1, 1) = 2");
    }

    private static void wouldArguments() {
        Edges.row(21, "`one`: a row", "would(1, #, 0, 2)", 3);
        Edges.row(21, "`other`: a row", "would(1, 0, #, 2)", 3);
        Sentence.holds(21, "`operation`: 0 to 3", Edges.refusing(Edges.calls("make() = 0 1", "write(0, 12, 4) = 1"),
            "would(#, 0, 1, 2)", 0, 3, "would(0, 0, 1, 2) = 0", "would(1, 0, 1, 2) = 2", "would(2, 0, 1, 2) = 2",
            "would(3, 0, 0, 2) = 0"));
        Sentence.holds(21, OUT_OF_RANGE, "would(0, 0, 0, 0) = -1", "make() = 0", "would(0, 0, 0, 0) = 0",
            "would(4, 0, 0, 0) = -1", "would(0, 1, 0, 0) = -1", "would(0, 0, 1, 0) = -1", "would(0, 0, 0, 3) = -1",
            "would(-1, -1, -1, -1) = -1", "would(3, 0, 0, 2) = 0");
    }

    private static void same() {
        Sentence.holds(22, "Finds the first row with the same bits and the same length.", "make() = 0 1 2 3",
            "append(0, 1, 15) = 15", "append(1, 1, 15) = 15", "append(2, 1, 15) = 15", "append(3, 0, 15) = 15",
            "same(0) = 0", "same(1) = 0", "same(2) = 0", "same(3) = 3", "append(1, 0, 1) = 16", "same(1) = 1",
            "same(2) = 0", "append(2, 0, 1) = 16", "same(2) = 1", "set(2, 15, 1) = 0", "same(2) = 2", "set(2, 15, 0) = 1",
            "set(2, 0, 0) = 1", "same(2) = 2");
        Sentence.holds(22, "Returns the row with the smallest number that is the same, perhaps the row itself;",
            "make() = 0 1 2 3 4 5 6 7", "same(0) = 0", "same(1) = 0", "same(7) = 0", "append(0, 0, 1) = 1", "same(0) = 0",
            "same(1) = 1", "same(7) = 1", "append(7, 0, 1) = 1", "same(7) = 0", "append(7, 0, 599) = 600", "same(7) = 7",
            "resize(0, 599) = 1", "same(7) = 7", "resize(0, 600) = 599", "same(7) = 0", "set(7, 599, 1) = 0",
            "same(7) = 7", "undo() = 4", "same(7) = 0");
        Edges.row(22, ROW, "same(#)", 0);
        Sentence.holds(22, "INVALID_ARGUMENT if there is no such row.", "same(0) = -1", "make() = 0", "same(0) = 0",
            "same(1) = -1", "same(-1) = -1", "undo() = 0", "same(0) = -1");
    }

    private static void bestShift() {
        String finds = "Finds the shift to higher places, from 0 to 14, by which a row would have the smallest size";
        Sentence.holds(23, finds, "make() = 0", "bestShift(0) = 0", "append(0, 0, 1) = 1", "append(0, 1, 30) = 31",
            "bestShift(0) = 14", "shift(0, 14) = 45", "row(0, 1) = 2", "bestShift(0) = 0", "shift(0, -1) = 44",
            "row(0, 1) = 3", "bestShift(0) = 1", "shift(0, -4) = 40", "bestShift(0) = 5", "shift(0, 5) = 45",
            "row(0, 1) = 2");
        Sentence.holds(23, finds, "make() = 0", "append(0, 0, 585) = 585", "append(0, 1, 15) = 600", "bestShift(0) = 0",
            "shift(0, 15) = 600", "row(0, 1) = 2", "undo() = 3", "row(0, 1) = 3", "shift(0, 14) = 600", "row(0, 1) = 3",
            "undo() = 3", "resize(0, 599) = 600", "bestShift(0) = 0");
        Sentence.holds(23, "of several the smallest one.", "make() = 0", "append(0, 1, 1) = 1", "bestShift(0) = 0",
            "resize(0, 0) = 1", "append(0, 0, 14) = 14", "append(0, 1, 15) = 29", "row(0, 1) = 2", "bestShift(0) = 0",
            "append(0, 1, 15) = 44", "row(0, 1) = 3", "bestShift(0) = 1", "resize(0, 0) = 44", "append(0, 0, 598) = 598",
            "append(0, 1, 2) = 600", "bestShift(0) = 2");
        Edges.row(23, ROW, "bestShift(#)", 0);
        Sentence.holds(23, "Returns the shift;", "make() = 0", "append(0, 0, 2) = 2", "append(0, 1, 30) = 32",
            "bestShift(0) = 13", "shift(0, 13) = 45", "row(0, 1) = 2");
        Sentence.holds(23, "INVALID_ARGUMENT if there is no such row.", "bestShift(0) = -1", "make() = 0", "bestShift(0) = 0",
            "bestShift(1) = -1", "bestShift(-1) = -1", "undo() = 0", "bestShift(0) = -1");
    }

    private static void bestShiftLoses() {
        Sentence.holds(23, "(bits beyond 600 being lost, as by shift())", "make() = 0", "append(0, 0, 586) = 586",
            "append(0, 1, 14) = 600", "row(0, 1) = 3", "bestShift(0) = 14", "shift(0, 14) = 600", "row(0, 1) = 2",
            "row(0, 5) = 0", "undo() = 3", "resize(0, 588) = 600", "append(0, 0, 12) = 600", "bestShift(0) = 14",
            "resize(0, 0) = 600", "append(0, 0, 585) = 585", "append(0, 1, 14) = 599", "bestShift(0) = 0",
            "resize(0, 600) = 599", "append(0, 0, 1) = -3", "bestShift(0) = 0", "row(0, 0) = 600");
        Sentence.holds(23, "(bits beyond 600 being lost, as by shift())", "make() = 0", "append(0, 0, 597) = 597",
            "append(0, 1, 3) = 600", "bestShift(0) = 3", "shift(0, 2) = 600", "row(0, 1) = 3", "bestShift(0) = 1",
            "shift(0, 1) = 600", "row(0, 1) = 2", "bestShift(0) = 0");
    }

    private static void changesNothing() {
        Sentence.holds(23, "what could be, which changes nothing.", andThen("would(3, 0, 0, 2) = 0", "would(1, 0, 0, 1) = 5",
            "same(0) = 0", "bestShift(0) = 0", "row(0, 0) = 401", "row(0, 5) = 51", "row(0, 6) = 315", "row(0, 7) = 370",
            "count(4) = 5", "undo() = 4", "row(0, 0) = 371"));
    }
}
