/** Rows and words, and the promises 1 to 6. */
final class RowSentences {
    private static final String ROW = "`row`: a row";
    private static final String OUT_OF_RANGE = "INVALID_ARGUMENT if an argument is out of range";
    private static final String TOO_LONG = "CAPACITY_EXCEEDED if the length would be more than 600.";
    private static final String ACTION = "This is an action.";

    private RowSentences() {
    }

    static void tell() {
        newObject();
        allCalls();
        make();
        append();
        appendRefuses();
        write();
        writeArguments();
        writeRefuses();
        set();
        setArguments();
        resize();
        lengths();
        groups();
        fills();
        codes();
    }

    private static void newObject() {
        Sentence.holds(1, "Creates no rows, and an empty text.",
            "count(0) = 0", "count(1) = 0", "count(2) = 0", "count(3) = 0", "count(4) = 0", "count(5) = 0",
            "row(0, 0) = -1", "same(0) = -1", "undo() = -2", "failure(0) = -9", "clearText() = 0",
            "make() = 0", "row(0, 0) = 0", "row(1, 0) = -1", "evaluate(0) = -1000", "type(48) = 1",
            "new", "count(0) = 0", "count(5) = 0", "type(48) = 1");
    }

    private static void allCalls() {
        StringBuilder lengths = new StringBuilder();
        for (int length = 1; length <= 509; length++) {
            lengths.append(' ').append(length);
        }
        Sentence.holds(1, "An object is used for at most 512 calls after it has been made;", "make() = 0",
            "append(0, 1, 1) =" + lengths, "undo() = 4", "row(0, 5) = 508");
    }

    private static void make() {
        Sentence.holds(2, "There are at most 8 rows, numbered from 0;",
            "row(0, 0) = -1", "make() = 0", "row(-1, 0) = -1", "row(0, 0) = 0", "row(1, 0) = -1",
            "make() = 1 2 3 4 5 6", "row(6, 0) = 0", "row(7, 0) = -1", "make() = 7", "row(7, 0) = 0",
            "row(8, 0) = -1", "make() = -3", "row(7, 0) = 0", "row(8, 0) = -1", "count(0) = 8");
        Sentence.holds(2, "Makes a row of the length 0.",
            "make() = 0", "row(0, 0) = 0", "row(0, 1) = 0", "bit(0, 0) = -1", "rank(0, 0) = 0", "rank(0, 1) = -1",
            "append(0, 1, 600) = 600", "undo() = 1", "undo() = 0", "make() = 0", "row(0, 0) = 0", "row(0, 5) = 0",
            "resize(0, 600) = 0", "row(0, 5) = 0", "make() = 1", "row(1, 0) = 0", "row(0, 0) = 600");
        Sentence.holds(2, ACTION,
            "count(4) = 0", "make() = 0", "count(4) = 1", "undo() = 0", "count(0) = 0", "undo() = -2",
            "make() = 0 1 2 3 4 5 6 7", "count(4) = 5", "undo() = 4", "count(0) = 7", "make() = 7", "count(4) = 5");
        Sentence.holds(2, "Returns its number;",
            "make() = 0 1 2", "undo() = 2", "make() = 2 3 4 5 6 7", "undo() = 4 3", "make() = 6 7 -3");
        Sentence.holds(2, "CAPACITY_EXCEEDED if there are 8.",
            "make() = 0 1 2 3 4 5 6", "count(0) = 7", "make() = 7", "count(0) = 8", "make() = -3 -3", "count(0) = 8",
            "count(4) = 5", "undo() = 4", "count(0) = 7", "make() = 7 -3");
    }

    private static void append() {
        Sentence.holds(3, "Appends the same bit several times to a row.",
            "make() = 0", "append(0, 1, 1) = 1", "append(0, 0, 2) = 3", "append(0, 1, 3) = 6", "bit(0, 0) = 1",
            "bit(0, 1) = 0", "bit(0, 2) = 0", "bit(0, 3) = 1", "bit(0, 4) = 1", "bit(0, 5) = 1", "bit(0, 6) = -1",
            "append(0, 1, 9) = 15", "bit(0, 14) = 1", "append(0, 1, 1) = 16", "bit(0, 15) = 1", "row(0, 5) = 14");
        Sentence.holds(3, ACTION,
            "make() = 0", "append(0, 0, 1) = 1", "count(4) = 2", "append(0, 0, 601) = -1", "append(0, 0, 600) = -3",
            "count(4) = 2", "undo() = 1", "row(0, 0) = 0", "append(0, 1, 600) = 600", "undo() = 1", "row(0, 5) = 0");
        Edges.row(3, ROW, "append(#, 0, 2)", 5);
        Sentence.holds(3, "`bit`: 0 or 1", Edges.refusing(Edges.calls("make() = 0"), "append(0, #, 5)", 0, 1,
            "row(0, 0) = 0", "append(0, 0, 5) = 5", "row(0, 5) = 0", "append(0, 1, 5) = 10", "row(0, 5) = 5"));
        Sentence.holds(3, "`many`: 1 to 600", Edges.refusing(Edges.calls("make() = 0"), "append(0, 1, #)", 1, 600,
            "row(0, 0) = 0", "append(0, 1, 1) = 1", "append(0, 1, 2) = 3", "undo() = 2", "undo() = 1",
            "append(0, 1, 600) = 600", "row(0, 5) = 600", "undo() = 1", "append(0, 1, 599) = 599",
            "row(0, 5) = 599", "count(4) = 2"));
        Sentence.holds(3, "Returns the length then;",
            "make() = 0 1", "append(1, 1, 1) = 1", "append(1, 0, 598) = 599", "append(1, 1, 1) = 600",
            "row(1, 0) = 600", "row(0, 0) = 0");
    }

    private static void appendRefuses() {
        Sentence.holds(3, OUT_OF_RANGE, "make() = 0", "append(0, 1, 0) = -1", "append(0, 2, 1) = -1",
            "append(1, 1, 1) = -1", "append(0, -1, 601) = -1", "row(0, 0) = 0", "count(4) = 1", "append(0, 1, 1) = 1");
        Sentence.holds(3, TOO_LONG, "make() = 0", "append(0, 1, 1) = 1", "append(0, 1, 600) = -3",
            "append(0, 1, 599) = 600", "append(0, 1, 1) = -3", "append(0, 0, 600) = -3", "row(0, 0) = 600",
            "row(0, 5) = 600", "resize(0, 599) = 600", "append(0, 0, 2) = -3", "append(0, 0, 1) = 600",
            "append(0, 0, 1) = -3", "resize(0, 0) = 600", "append(0, 0, 600) = 600");
        Sentence.holds(3, "the method returns the one that its description lists first", "make() = 0",
            "append(0, 1, 600) = 600", "append(0, 1, 1) = -3", "append(0, 2, 1) = -1", "append(1, 1, 1) = -1",
            "append(0, 1, 601) = -1", "append(0, 1, 0) = -1", "count(4) = 2");
    }

    private static void write() {
        Sentence.holds(4, "Appends bits of a number to a row: bit 0 of the number (the lowest one) first.",
            "make() = 0", "write(0, 1, 16) = 2", "bit(0, 0) = 1", "bit(0, 1) = 0", "bit(0, 15) = 0", "row(0, 5) = 1",
            "write(0, 32768, 16) = 3", "row(0, 0) = 32", "row(0, 7) = 31", "row(0, 5) = 2",
            "new", "make() = 0", "write(0, 32768, 16) = 2", "bit(0, 0) = 0", "bit(0, 14) = 0", "bit(0, 15) = 1",
            "write(0, 2, 2) = 2", "bit(0, 16) = 0", "bit(0, 17) = 1", "word(0, 1) = 5");
        Sentence.holds(4, ACTION,
            "make() = 0", "write(0, 0, 1) = 1", "count(4) = 2", "write(0, 0, 17) = -1", "count(4) = 2", "undo() = 1",
            "row(0, 0) = 0", "append(0, 1, 585) = 585", "write(0, 65535, 16) = -3", "count(4) = 2",
            "write(0, 65535, 15) = 2", "undo() = 2", "row(0, 5) = 585", "resize(0, 600) = 585", "row(0, 5) = 585");
    }

    private static void writeArguments() {
        Edges.row(4, ROW, "write(#, 0, 2)", 1);
        Sentence.holds(4, "`bits`: 0 to 65535", Edges.refusing(Edges.calls("make() = 0"), "write(0, #, 16)", 0, 65535,
            "write(0, -1, 1) = -1", "write(0, 65536, 1) = -1", "row(0, 0) = 0", "write(0, 0, 16) = 1",
            "row(0, 5) = 0", "write(0, 65535, 16) = 3", "row(0, 5) = 16", "write(0, 1, 1) = 3",
            "write(0, 65534, 1) = 3", "row(0, 5) = 17", "row(0, 0) = 34"));
        Sentence.holds(4, "`many`: 1 to 16, how many bits, from bit 0 on",
            Edges.refusing(Edges.calls("make() = 0"), "write(0, 65535, #)", 1, 16, "row(0, 0) = 0",
                "write(0, 65535, 1) = 1", "row(0, 0) = 1", "row(0, 5) = 1", "write(0, 65535, 2) = 1", "row(0, 0) = 3",
                "write(0, 65535, 15) = 2", "row(0, 0) = 18", "write(0, 65535, 16) = 2", "row(0, 0) = 34",
                "row(0, 5) = 34", "write(0, 65534, 1) = 2", "row(0, 5) = 34", "write(0, 32768, 15) = 3",
                "row(0, 5) = 34", "row(0, 0) = 50", "resize(0, 65) = 50", "row(0, 5) = 34"));
        Sentence.holds(4, "Returns the size then;", "make() = 0", "write(0, 32767, 14) = 1", "write(0, 1, 1) = 1",
            "write(0, 32767, 15) = 1", "write(0, 0, 1) = 2", "write(0, 0, 14) = 2", "write(0, 0, 15) = 2",
            "write(0, 1, 1) = 3", "row(0, 1) = 3",
            "new", "make() = 0", "append(0, 1, 285) = 285", "write(0, 65535, 15) = 1", "write(0, 65535, 15) = 2",
            "new", "make() = 0", "append(0, 1, 585) = 585", "row(0, 1) = 2", "write(0, 16383, 15) = 3");
    }

    private static void writeRefuses() {
        Sentence.holds(4, OUT_OF_RANGE, "make() = 0", "write(0, 65536, 16) = -1", "write(0, 65535, 17) = -1",
            "write(1, 65535, 16) = -1", "write(0, -1, 0) = -1", "count(4) = 1", "write(0, 65535, 16) = 2");
        Sentence.holds(4, TOO_LONG, "make() = 0", "append(0, 0, 584) = 584", "write(0, 0, 16) = 2", "write(0, 1, 1) = -3",
            "row(0, 0) = 600", "resize(0, 585) = 600", "write(0, 1, 16) = -3", "row(0, 5) = 0", "write(0, 1, 15) = 3",
            "write(0, 1, 1) = -3", "resize(0, 599) = 600", "write(0, 3, 2) = -3", "row(0, 0) = 599",
            "write(0, 3, 1) = 3", "row(0, 0) = 600", "row(0, 7) = 599", "write(0, 0, 16) = -3");
        Sentence.holds(4, "the method returns the one that its description lists first", "make() = 0",
            "append(0, 1, 600) = 600", "write(0, 1, 1) = -3", "write(0, 65536, 1) = -1", "write(0, 1, 17) = -1",
            "write(0, 1, 0) = -1", "write(1, 1, 1) = -1", "count(4) = 2");
    }

    private static void set() {
        Sentence.holds(5, "Changes a bit of a row.", "make() = 0 1", "append(0, 0, 31) = 31", "append(1, 0, 31) = 31",
            "set(0, 0, 1) = 0", "set(0, 14, 1) = 0", "set(0, 15, 1) = 0", "set(0, 30, 1) = 0", "row(0, 5) = 4",
            "word(0, 0) = 16385", "word(0, 1) = 1", "word(0, 2) = 1", "set(0, 14, 0) = 1", "row(0, 5) = 3",
            "word(0, 0) = 1", "word(0, 1) = 1", "row(0, 0) = 31", "row(1, 5) = 0");
        Sentence.holds(5, ACTION, "make() = 0", "append(0, 0, 5) = 5", "set(0, 4, 1) = 0", "count(4) = 3",
            "set(0, 5, 1) = -1", "count(4) = 3", "undo() = 2", "bit(0, 4) = 0", "set(0, 4, 0) = 0", "count(4) = 3");
        Sentence.holds(5, "Returns the previous bit;", "make() = 0", "append(0, 0, 1) = 1", "set(0, 0, 0) = 0",
            "set(0, 0, 1) = 0", "set(0, 0, 1) = 1", "set(0, 0, 0) = 1", "set(0, 0, 0) = 0", "bit(0, 0) = 0");
    }

    private static void setArguments() {
        Edges.row(5, ROW, "set(#, 2, 0)", 1);
        Sentence.holds(5, "`at`: a place, less than the length",
            Edges.refusing(Edges.calls("make() = 0", "set(0, 0, 1) = -1", "append(0, 0, 1) = 1", "set(0, 1, 1) = -1"),
                "set(0, #, 1)", 0, 0, "row(0, 5) = 0", "set(0, 0, 1) = 0", "append(0, 0, 14) = 15",
                "set(0, 14, 1) = 0", "set(0, 15, 1) = -1", "append(0, 0, 1) = 16", "set(0, 15, 1) = 0",
                "set(0, 16, 1) = -1", "append(0, 0, 584) = 600", "set(0, 599, 1) = 0", "set(0, 600, 1) = -1",
                "row(0, 5) = 4", "row(0, 7) = 599", "resize(0, 599) = 600", "set(0, 599, 1) = -1",
                "set(0, 598, 1) = 0", "row(0, 7) = 598"));
        Sentence.holds(5, "`bit`: 0 or 1", Edges.refusing(Edges.calls("make() = 0", "append(0, 0, 3) = 3"),
            "set(0, 1, #)", 0, 1, "row(0, 5) = 0", "count(4) = 2", "set(0, 1, 1) = 0", "set(0, 1, 2) = -1",
            "set(0, 1, -1) = -1", "set(0, 1, 0) = 1", "row(0, 5) = 0", "count(4) = 4"));
        Sentence.holds(5, OUT_OF_RANGE, "make() = 0", "append(0, 1, 3) = 3", "set(1, 0, 0) = -1", "set(0, 3, 0) = -1",
            "set(0, 2, 2) = -1", "set(-1, -1, -1) = -1", "row(0, 5) = 3", "count(4) = 2", "set(0, 2, 0) = 1");
    }

    private static void resize() {
        Sentence.holds(6, "Cuts a row, or fills it up with zeros.", "make() = 0", "append(0, 1, 31) = 31",
            "resize(0, 30) = 31", "row(0, 5) = 30", "resize(0, 31) = 30", "row(0, 5) = 30", "bit(0, 30) = 0",
            "resize(0, 16) = 31", "resize(0, 15) = 16", "resize(0, 14) = 15", "word(0, 0) = 16383",
            "resize(0, 15) = 14", "word(0, 0) = 16383", "resize(0, 600) = 15", "row(0, 5) = 14", "resize(0, 1) = 600",
            "row(0, 5) = 1", "resize(0, 0) = 1", "resize(0, 1) = 0", "row(0, 5) = 0");
        Sentence.holds(6, ACTION, "make() = 0", "append(0, 1, 5) = 5", "resize(0, 5) = 5", "count(4) = 3",
            "resize(0, 601) = -1", "count(4) = 3", "resize(0, 0) = 5", "undo() = 3", "row(0, 5) = 5", "undo() = 2",
            "resize(0, 600) = 5", "undo() = 2", "row(0, 0) = 5");
        Edges.row(6, ROW, "resize(#, 4)", 3);
        Sentence.holds(6, "`length`: 0 to 600", Edges.refusing(Edges.calls("make() = 0", "append(0, 1, 7) = 7"),
            "resize(0, #)", 0, 600, "row(0, 0) = 7", "resize(0, 0) = 7", "resize(0, -1) = -1", "resize(0, 1) = 0",
            "resize(0, 599) = 1", "resize(0, 600) = 599", "resize(0, 601) = -1", "row(0, 0) = 600"));
        Sentence.holds(6, "Returns the previous length;", "make() = 0", "resize(0, 0) = 0", "resize(0, 600) = 0",
            "resize(0, 600) = 600", "resize(0, 0) = 600", "resize(0, 0) = 0");
        Sentence.holds(6, OUT_OF_RANGE, "make() = 0", "resize(0, 601) = -1", "resize(1, 600) = -1",
            "resize(-1, -1) = -1", "count(4) = 1", "row(0, 0) = 0", "resize(0, 600) = 0");
    }

    private static void lengths() {
        Sentence.holds(6, "each has a length of 0 to 600 bits, numbered from 0.", "make() = 0", "row(0, 0) = 0",
            "bit(0, 0) = -1", "append(0, 1, 1) = 1", "bit(0, -1) = -1", "bit(0, 0) = 1", "bit(0, 1) = -1",
            "resize(0, 600) = 1", "set(0, 599, 1) = 0", "bit(0, 599) = 1", "bit(0, 600) = -1", "append(0, 1, 1) = -3",
            "shift(0, 1) = 600", "resize(0, 601) = -1", "resize(0, 0) = 600", "shift(0, -1) = 0", "resize(0, -1) = -1",
            "row(0, 0) = 0");
    }

    private static void groups() {
        Sentence.holds(17, "A row is packed as follows: it is cut into groups of 15 bits, from bit 0 on;", "make() = 0",
            "append(0, 0, 30) = 30", "set(0, 14, 1) = 0", "word(0, 0) = 16384", "word(0, 1) = 32769", "set(0, 14, 0) = 1", "set(0, 15, 1) = 0",
            "word(0, 0) = 32769", "word(0, 1) = 1", "set(0, 29, 1) = 0", "word(0, 1) = 16385", "word(0, 2) = -9",
            "append(0, 1, 1) = 31", "word(0, 2) = 1");
        Sentence.holds(17, "the last group is filled up with zeros.", "make() = 0", "append(0, 1, 1) = 1",
            "word(0, 0) = 1", "append(0, 1, 14) = 15", "word(0, 0) = 49153", "append(0, 1, 1) = 16", "word(0, 1) = 1",
            "not(0) = 0", "word(0, 0) = 32770", "word(0, 1) = -9", "not(0) = 16", "resize(0, 30) = 16", "word(0, 1) = 1");
        Sentence.holds(17, "A group is a zero group if all its bits are 0, a one group if all its bits are 1, and"
            + " otherwise a mixed group;", "make() = 0", "append(0, 0, 15) = 15", "word(0, 0) = 32769",
            "set(0, 0, 1) = 0", "word(0, 0) = 1", "set(0, 0, 0) = 1", "set(0, 14, 1) = 0", "word(0, 0) = 16384",
            "not(0) = 14", "word(0, 0) = 16383", "set(0, 14, 1) = 0", "word(0, 0) = 49153", "set(0, 0, 0) = 1",
            "word(0, 0) = 32766");
        Sentence.holds(17, "the last group of a row whose length is no multiple of 15 is never a one group.",
            "make() = 0", "append(0, 1, 14) = 14", "row(0, 4) = 0", "word(0, 0) = 16383", "append(0, 1, 1) = 15",
            "row(0, 4) = 1", "word(0, 0) = 49153", "append(0, 1, 14) = 29", "row(0, 4) = 1", "word(0, 0) = 49153",
            "word(0, 1) = 16383", "append(0, 1, 1) = 30", "word(0, 0) = 49154", "word(0, 1) = -9",
            "append(0, 1, 569) = 599", "row(0, 2) = 1", "append(0, 1, 1) = 600", "row(0, 2) = 0");
        Sentence.holds(17, "Groups that stand one behind the other become words: a literal is one mixed group;", "make() = 0",
            "write(0, 7, 15) = 1", "write(0, 7, 15) = 2", "word(0, 0) = 7", "word(0, 1) = 7", "row(0, 2) = 2", "write(0, 7, 3) = 3", "row(0, 2) = 3");
    }

    private static void fills() {
        Sentence.holds(17, "a fill is a run of 1 to 20 zero groups, or of 1 to 20 one groups.", "make() = 0 1",
            "append(0, 0, 1) = 1", "word(0, 0) = 32769", "append(0, 0, 299) = 300", "word(0, 0) = 32788",
            "word(0, 1) = -9", "append(0, 0, 1) = 301", "word(0, 0) = 32788", "word(0, 1) = 32769",
            "append(1, 1, 15) = 15", "word(1, 0) = 49153", "append(1, 1, 285) = 300", "word(1, 0) = 49172",
            "word(1, 1) = -9", "append(1, 1, 15) = 315", "word(1, 0) = 49172", "word(1, 1) = 49153");
        String shortest = "each run of zero groups, or of one groups, is packed from its beginning on into fills of"
            + " 20 groups, and one fill of what is left, if there is any.";
        Sentence.holds(17, shortest, "make() = 0", "append(0, 0, 585) = 585", "word(0, 0) = 32788",
            "word(0, 1) = 32787", "word(0, 2) = -9", "append(0, 0, 15) = 600", "word(0, 1) = 32788", "word(0, 2) = -9",
            "set(0, 0, 1) = 0", "word(0, 0) = 1", "word(0, 1) = 32788", "word(0, 2) = 32787", "word(0, 3) = -9",
            "set(0, 299, 1) = 0", "word(0, 1) = 32786", "word(0, 2) = 16384", "word(0, 3) = 32788", "word(0, 4) = -9");
        Sentence.holds(17, shortest, "make() = 0", "append(0, 0, 15) = 15", "append(0, 1, 585) = 600",
            "word(0, 0) = 32769", "word(0, 1) = 49172", "word(0, 2) = 49171", "word(0, 3) = -9", "not(0) = 15",
            "word(0, 0) = 49153", "word(0, 1) = 32788", "word(0, 2) = 32787", "shift(0, -15) = 585", "row(0, 1) = 2",
            "word(0, 0) = 32788", "word(0, 1) = 32787");
        Sentence.holds(16, "The form of a row is its words. A row is always in its shortest form:", "make() = 0",
            "append(0, 1, 299) = 299", "row(0, 1) = 2", "append(0, 1, 1) = 300", "row(0, 1) = 1", "append(0, 1, 1) = 301", "row(0, 1) = 2",
            "set(0, 150, 0) = 1", "row(0, 1) = 4", "set(0, 150, 1) = 0", "row(0, 1) = 2", "resize(0, 299) = 301",
            "row(0, 1) = 2", "resize(0, 285) = 299", "row(0, 1) = 1", "word(0, 0) = 49171");
    }

    private static void codes() {
        Sentence.holds(17, "The value of a literal is the sum of 2 to the power of k over all its bits k (from 0 to 14,"
            + " counted from the first bit of the group) that are 1.", "make() = 0", "append(0, 0, 30) = 30",
            "set(0, 15, 1) = 0", "word(0, 1) = 1", "set(0, 16, 1) = 0", "word(0, 1) = 3", "set(0, 29, 1) = 0",
            "word(0, 1) = 16387", "set(0, 15, 0) = 1", "word(0, 1) = 16386", "not(0) = 28", "word(0, 1) = 16381");
        Sentence.holds(17, "The code of a word is: for a literal its value, for a fill of n zero groups 32768 plus n, for a"
            + " fill of n one groups 49152 plus n.", "make() = 0", "write(0, 1, 15) = 1", "word(0, 0) = 1", "write(0, 32766, 15) = 2",
            "word(0, 1) = 32766", "append(0, 0, 15) = 45", "word(0, 2) = 32769", "append(0, 1, 15) = 60",
            "word(0, 3) = 49153", "append(0, 0, 300) = 360", "word(0, 4) = 32788", "resize(0, 60) = 360",
            "append(0, 1, 285) = 345", "word(0, 3) = 49172", "row(0, 1) = 4");
        Sentence.holds(16, "The size of a row is the number of its words.", "make() = 0", "row(0, 1) = 0",
            "word(0, 0) = -9", "append(0, 0, 1) = 1", "row(0, 1) = 1", "word(0, 0) = 32769", "word(0, 1) = -9",
            "append(0, 0, 299) = 300", "row(0, 1) = 1", "append(0, 0, 300) = 600", "row(0, 1) = 2", "word(0, 1) = 32788",
            "word(0, 2) = -9", "set(0, 300, 1) = 0", "row(0, 1) = 3", "word(0, 2) = 32787", "word(0, 3) = -9");
    }
}
