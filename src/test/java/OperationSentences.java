/** Operations, undo and errors, and the promises 7 to 10. */
final class OperationSentences {
    private static final String ROW = "`row`: a row";
    private static final String OUT_OF_RANGE = "INVALID_ARGUMENT if an argument is out of range.";
    private static final String ACTION = "This is an action.";

    private OperationSentences() {
    }

    static void tell() {
        operate();
        operateArguments();
        results();
        work();
        workOfSteps();
        not();
        shift();
        shiftArguments();
        shiftTerms();
        undo();
        history();
        states();
        errors();
    }

    private static void operate() {
        Sentence.holds(7, "Puts the result of an operation of two rows into a row, in place of what it was.",
            "make() = 0 1 2", "append(0, 1, 5) = 5", "append(1, 1, 40) = 40", "append(2, 1, 600) = 600",
            "operate(2, 0, 0, 1) = 3", "row(2, 0) = 40", "row(2, 5) = 5", "row(0, 5) = 5", "row(1, 5) = 40",
            "operate(0, 2, 1, 0) = 3", "row(0, 0) = 40", "row(0, 5) = 35", "row(0, 6) = 5",
            "operate(1, 3, 1, 1) = 2", "row(1, 0) = 40", "row(1, 5) = 0");
        Sentence.holds(7, ACTION, "make() = 0 1", "append(1, 1, 5) = 5", "operate(0, 1, 0, 1) = 1", "count(4) = 4",
            "operate(0, 4, 0, 1) = -1", "count(4) = 4", "undo() = 3", "row(0, 0) = 0", "row(1, 5) = 5",
            "operate(1, 2, 1, 1) = 1", "undo() = 3", "row(1, 5) = 5");
    }

    private static void operateArguments() {
        Edges.row(7, "`into`: a row", "operate(#, 1, 0, 0)", 1);
        Edges.row(7, "`one`: a row", "operate(0, 1, #, 0)", 1);
        Edges.row(7, "`other`: a row", "operate(0, 1, 0, #)", 1);
        Sentence.holds(7, "`operation`: 0 to 3", Edges.refusing(Edges.calls("make() = 0 1 2", "write(0, 12, 4) = 1",
            "write(1, 10, 4) = 1"), "operate(2, #, 0, 1)", 0, 3, "row(2, 0) = 0", "count(4) = 5",
            "operate(2, 0, 0, 1) = 1", "word(2, 0) = 8", "operate(2, 3, 0, 1) = 1", "word(2, 0) = 6"));
        Sentence.holds(7, "Returns the work;", "make() = 0 1", "operate(0, 1, 0, 1) = 0", "append(0, 1, 15) = 15",
            "operate(1, 2, 0, 0) = 1", "append(0, 1, 1) = 16", "operate(0, 1, 0, 1) = 2");
        Sentence.holds(7, OUT_OF_RANGE, "make() = 0", "append(0, 1, 9) = 9", "operate(1, 3, 0, 0) = -1",
            "operate(0, -1, 0, 0) = -1", "operate(0, 3, 1, 0) = -1", "operate(0, 3, 0, 1) = -1",
            "operate(-1, 4, -1, -1) = -1", "row(0, 5) = 9", "count(4) = 2", "operate(0, 3, 0, 0) = 1", "row(0, 5) = 0");
    }

    private static void results() {
        Sentence.holds(7, "The operations are: 0 and, 1 or, 2 without (the bits of the first one that are not in the"
            + " second one), 3 either (the bits that are in just one of them).", "make() = 0 1 2", "write(0, 12, 4) = 1",
            "write(1, 10, 4) = 1", "operate(2, 0, 0, 1) = 1", "word(2, 0) = 8", "operate(2, 1, 0, 1) = 1",
            "word(2, 0) = 14", "operate(2, 2, 0, 1) = 1", "word(2, 0) = 4", "operate(2, 2, 1, 0) = 1", "word(2, 0) = 2",
            "operate(2, 3, 0, 1) = 1", "word(2, 0) = 6", "row(2, 0) = 4");
        String longer = "An operation of two rows gives a row whose length is that of the longer one;";
        Sentence.holds(7, longer, "make() = 0 1 2", "operate(2, 0, 0, 1) = 0", "row(2, 0) = 0", "append(0, 0, 1) = 1",
            "operate(2, 0, 0, 1) = 1", "row(2, 0) = 1", "operate(2, 0, 1, 0) = 1", "row(2, 0) = 1",
            "append(1, 0, 600) = 600", "operate(2, 0, 0, 1) = 3", "row(2, 0) = 600", "resize(0, 599) = 1",
            "operate(2, 3, 1, 0) = 2", "row(2, 0) = 600", "operate(2, 3, 0, 0) = 2", "row(2, 0) = 599");
        Sentence.holds(7, "the shorter one is taken as if zeros were behind its end.", "make() = 0 1 2",
            "append(0, 1, 14) = 14", "append(1, 1, 16) = 16", "operate(2, 0, 0, 1) = 2", "row(2, 5) = 14",
            "row(2, 7) = 13", "operate(2, 1, 0, 1) = 2", "row(2, 5) = 16", "operate(2, 2, 0, 1) = 2", "row(2, 5) = 0",
            "row(2, 0) = 16", "operate(2, 2, 1, 0) = 2", "row(2, 5) = 2", "row(2, 6) = 14", "operate(2, 3, 0, 1) = 2",
            "row(2, 5) = 2", "row(2, 6) = 14");
    }

    private static void work() {
        Sentence.holds(7, "so it is the number of places at which a word of either row ends, by groups, places of both"
            + " counted once, and the end of the longer one included.", "make() = 0 1", "append(0, 0, 600) = 600",
            "would(1, 0, 1, 0) = 2", "append(1, 1, 15) = 15", "would(1, 0, 1, 0) = 3", "append(1, 1, 270) = 285",
            "would(1, 0, 1, 0) = 3", "append(1, 1, 15) = 300", "would(1, 0, 1, 0) = 2", "append(1, 1, 1) = 301",
            "would(1, 0, 1, 0) = 3", "append(1, 1, 299) = 600", "would(1, 0, 1, 0) = 2", "shift(1, 1) = 600",
            "would(1, 0, 1, 0) = 4", "operate(1, 1, 1, 0) = 4");
        Sentence.holds(21, "and the end of the longer one included.", "make() = 0 1", "would(0, 0, 1, 0) = 0",
            "append(0, 0, 1) = 1", "would(0, 0, 1, 0) = 1", "would(0, 1, 0, 0) = 1", "append(0, 0, 15) = 16",
            "append(1, 0, 30) = 30", "would(0, 0, 1, 0) = 1", "append(1, 0, 1) = 31", "would(0, 0, 1, 0) = 2",
            "resize(1, 15) = 31", "would(0, 0, 1, 0) = 2", "not(1) = 15", "would(0, 1, 1, 0) = 1");
    }

    private static void workOfSteps() {
        String steps = "The work of an operation of two rows is the number of steps in which it is done: a step takes as"
            + " many groups as both words that are at hand have left at least (a literal has one; behind the end of the"
            + " shorter row there is a fill that does not end), until the longer one has no more;";
        Sentence.holds(7, steps, "make() = 0 1 2", "write(0, 1, 15) = 1", "'0|0<15' = 6", "evaluate(0) = 2",
            "'0|0<30' = 6", "evaluate(0) = 4", "'0|0<60' = 6", "evaluate(0) = 8", "'0|0<120' = 7", "evaluate(0) = 16",
            "'0|0<240' = 7", "evaluate(0) = 32", "'0|0<120' = 7", "evaluate(0) = 40", "row(0, 2) = 40",
            "operate(2, 0, 0, 1) = 40", "append(1, 0, 600) = 600", "operate(2, 0, 0, 1) = 40", "operate(2, 0, 1, 0) = 40",
            "operate(2, 0, 1, 1) = 2");
        Sentence.holds(7, steps, "make() = 0 1 2", "append(0, 0, 600) = 600", "operate(2, 0, 0, 1) = 2",
            "operate(2, 0, 1, 0) = 2", "append(1, 0, 300) = 300", "operate(2, 0, 0, 1) = 2", "append(1, 0, 1) = 301",
            "operate(2, 0, 0, 1) = 3", "write(1, 1, 14) = 2", "operate(2, 0, 0, 1) = 3", "resize(0, 315) = 600",
            "operate(2, 0, 0, 1) = 2", "resize(0, 316) = 315", "operate(2, 0, 0, 1) = 3");
    }

    private static void not() {
        Sentence.holds(8, "Makes each bit of a row the other one.", "make() = 0 1", "write(0, 5, 4) = 1", "not(0) = 2",
            "word(0, 0) = 10", "not(0) = 2", "word(0, 0) = 5", "row(1, 0) = 0");
        Sentence.holds(8, "Not gives a row of the same length in which each bit is the other one.", "make() = 0",
            "not(0) = 0", "row(0, 0) = 0", "append(0, 0, 14) = 14", "not(0) = 14", "word(0, 0) = 16383",
            "resize(0, 16) = 14", "row(0, 5) = 14", "not(0) = 2", "row(0, 6) = 14", "row(0, 0) = 16",
            "resize(0, 600) = 16", "row(0, 5) = 2", "not(0) = 598", "row(0, 0) = 600", "resize(0, 599) = 600",
            "not(0) = 2", "row(0, 0) = 599");
        Sentence.holds(8, ACTION, "make() = 0", "not(0) = 0", "count(4) = 2", "not(1) = -1", "count(4) = 2",
            "append(0, 1, 3) = 3", "not(0) = 0", "undo() = 3", "row(0, 5) = 3");
        Edges.row(8, ROW, "not(#)", 0);
        Sentence.holds(8, "Returns the number of ones then;", "make() = 0", "not(0) = 0 0", "append(0, 0, 1) = 1",
            "not(0) = 1 0 1", "resize(0, 600) = 1", "not(0) = 599 1");
        Sentence.holds(8, "INVALID_ARGUMENT if there is no such row.", "not(0) = -1", "make() = 0", "not(0) = 0",
            "not(1) = -1", "not(-1) = -1", "undo() = 1 0", "not(0) = -1", "count(4) = 0");
    }

    private static void shift() {
        Sentence.holds(9, "Shifts a row.", "make() = 0 1", "write(0, 13, 4) = 1", "shift(0, 1) = 5", "word(0, 0) = 26",
            "shift(0, -1) = 4", "word(0, 0) = 13", "shift(0, 0) = 4", "word(0, 0) = 13", "shift(0, 12) = 16",
            "word(0, 0) = 20480", "word(0, 1) = 1", "shift(0, -13) = 3", "word(0, 0) = 6", "row(1, 0) = 0");
        Sentence.holds(9, ACTION, "make() = 0", "append(0, 1, 3) = 3", "shift(0, 0) = 3", "count(4) = 3",
            "shift(0, 601) = -1", "count(4) = 3", "shift(0, -600) = 0", "undo() = 3", "row(0, 5) = 3",
            "shift(0, 600) = 600", "row(0, 5) = 0", "undo() = 3", "row(0, 5) = 3", "row(0, 0) = 3");
        Sentence.holds(9, "Returns the length then;", "make() = 0", "shift(0, -1) = 0", "shift(0, 0) = 0",
            "shift(0, 1) = 1", "shift(0, -1) = 0", "shift(0, 599) = 599", "shift(0, 1) = 600", "shift(0, 1) = 600",
            "shift(0, -599) = 1", "shift(0, -2) = 0");
    }

    private static void shiftArguments() {
        Edges.row(9, ROW, "shift(#, 2)", 5);
        Sentence.holds(9, "`by`: -600 to 600", Edges.refusing(Edges.calls("make() = 0", "append(0, 1, 600) = 600"),
            "shift(0, #)", -600, 600, "row(0, 5) = 600", "shift(0, 599) = 600", "row(0, 5) = 1", "undo() = 2",
            "shift(0, 600) = 600", "row(0, 5) = 0", "undo() = 2", "shift(0, -599) = 1", "row(0, 5) = 1", "undo() = 2",
            "shift(0, -600) = 0", "undo() = 2", "row(0, 5) = 600", "shift(0, 0) = 600", "row(0, 5) = 600"));
        Sentence.holds(9, OUT_OF_RANGE, "make() = 0", "append(0, 1, 9) = 9", "shift(0, 601) = -1", "shift(0, -601) = -1",
            "shift(1, 0) = -1", "shift(-1, 601) = -1", "row(0, 0) = 9", "count(4) = 2", "shift(0, 600) = 600");
    }

    private static void shiftTerms() {
        Sentence.holds(9, "A shift by n (-600 to 600) moves each bit to the place that is greater by n;", "make() = 0",
            "write(0, 1, 1) = 1", "shift(0, 14) = 15", "row(0, 6) = 14", "shift(0, 1) = 16", "row(0, 6) = 15",
            "shift(0, -15) = 1", "row(0, 6) = 0", "shift(0, 15) = 16", "row(0, 6) = 15", "shift(0, -1) = 15",
            "row(0, 6) = 14", "shift(0, -14) = 1", "shift(0, 599) = 600", "row(0, 6) = 599", "shift(0, -599) = 1",
            "row(0, 6) = 0", "shift(0, 600) = 600", "row(0, 6) = -9");
        Sentence.holds(9, "bits that come below 0 are lost;", "make() = 0", "append(0, 1, 31) = 31", "shift(0, -1) = 30",
            "row(0, 5) = 30", "shift(0, 1) = 31", "bit(0, 0) = 0", "row(0, 5) = 30", "shift(0, -15) = 16",
            "row(0, 5) = 16", "shift(0, -15) = 1", "row(0, 5) = 1", "shift(0, -1) = 0", "shift(0, 1) = 1", "row(0, 5) = 0");
        Sentence.holds(9, "the length becomes greater by n, but is at least 0 and at most 600, and bits beyond it are"
            + " lost;", "make() = 0", "append(0, 1, 598) = 598", "shift(0, 1) = 599", "shift(0, 1) = 600",
            "row(0, 5) = 598", "shift(0, 1) = 600", "row(0, 5) = 597", "shift(0, -1) = 599", "row(0, 5) = 597",
            "shift(0, 2) = 600", "row(0, 5) = 596", "shift(0, -599) = 1", "row(0, 5) = 1", "resize(0, 5) = 1",
            "shift(0, -4) = 1", "undo() = 4", "shift(0, -5) = 0", "undo() = 4", "shift(0, -6) = 0", "shift(0, 600) = 600",
            "shift(0, 600) = 600");
        Sentence.holds(9, "new bits are 0.", "make() = 0", "append(0, 1, 16) = 16", "shift(0, 1) = 17", "bit(0, 0) = 0",
            "bit(0, 1) = 1", "shift(0, 15) = 32", "row(0, 5) = 16", "row(0, 6) = 16", "shift(0, -17) = 15",
            "row(0, 5) = 15", "resize(0, 600) = 15", "row(0, 5) = 15");
    }

    private static void undo() {
        Sentence.holds(10, "Removes the latest state from the history and restores it.", "make() = 0",
            "append(0, 1, 5) = 5", "set(0, 4, 0) = 1", "resize(0, 600) = 5", "undo() = 3", "row(0, 0) = 5", "undo() = 2",
            "bit(0, 4) = 1", "append(0, 0, 1) = 6", "undo() = 2", "row(0, 0) = 5", "undo() = 1", "row(0, 0) = 0",
            "undo() = 0", "row(0, 0) = -1", "undo() = -2");
        Sentence.holds(10, "Returns the number of states that are left in the history;", "make() = 0", "undo() = 0",
            "make() = 0 1 2 3 4", "undo() = 4 3 2 1 0 -2", "make() = 0 1 2 3 4 5", "undo() = 4 3 2 1 0 -2");
        Sentence.holds(10, "ILLEGAL_STATE if it is empty.", "undo() = -2", "count(0) = 0", "make() = 0",
            "undo() = 0 -2 -2", "count(4) = 0", "make() = 0", "undo() = 0 -2");
    }

    private static void history() {
        Sentence.holds(10, "A history of at most 5 states is kept;", "count(4) = 0", "make() = 0", "count(4) = 1",
            "not(0) = 0 0 0", "count(4) = 4", "not(0) = 0", "count(4) = 5", "not(0) = 0", "count(4) = 5",
            "not(0) = 0", "count(4) = 5", "undo() = 4 3 2 1 0 -2", "count(0) = 1");
        Sentence.holds(10, "when a sixth one is recorded, the oldest one is dropped.", "make() = 0",
            "append(0, 1, 1) = 1", "append(0, 1, 2) = 3", "append(0, 1, 3) = 6", "append(0, 1, 4) = 10", "count(4) = 5",
            "undo() = 4 3 2 1 0", "count(0) = 0", "undo() = -2",
            "new", "make() = 0", "append(0, 1, 1) = 1", "append(0, 1, 2) = 3", "append(0, 1, 3) = 6",
            "append(0, 1, 4) = 10", "append(0, 1, 5) = 15", "count(4) = 5", "undo() = 4", "row(0, 0) = 10", "undo() = 3",
            "row(0, 0) = 6", "undo() = 2", "row(0, 0) = 3", "undo() = 1", "row(0, 0) = 1", "undo() = 0",
            "row(0, 0) = 0", "undo() = -2", "count(0) = 1");
        Sentence.holds(10, "undo() removes the latest state from the history and restores it.", "make() = 0 1",
            "append(0, 1, 600) = 600", "operate(1, 1, 0, 0) = 2", "shift(1, 1) = 600", "not(0) = 0", "undo() = 4",
            "row(0, 5) = 600", "undo() = 3", "row(1, 5) = 600", "undo() = 2", "row(1, 0) = 0", "make() = 2", "undo() = 2",
            "row(2, 0) = -1", "undo() = 1", "row(0, 0) = 0", "undo() = 0", "count(0) = 1");
    }

    private static void states() {
        Sentence.holds(10, "a state is everything but the text, the failure and the history.", "make() = 0", "'x' = 1",
            "evaluate(0) = -1000", "append(0, 1, 5) = 5", "'(7)' = 3", "evaluate(0) = -1001", "undo() = 1",
            "row(0, 0) = 0", "count(5) = 3", "failure(0) = 2", "failure(1) = 1", "failure(2) = 1", "undo() = 0",
            "count(0) = 0", "count(5) = 3", "failure(0) = 2", "undo() = -2", "clearText() = 3");
        Sentence.holds(10, "Every successful call of a method that is called an action records the state before it"
            + " (also if nothing changes by it);", "make() = 0", "append(0, 0, 600) = 600", "count(4) = 2",
            "set(0, 5, 0) = 0", "count(4) = 3", "undo() = 2", "resize(0, 600) = 600", "count(4) = 3", "undo() = 2",
            "operate(0, 1, 0, 0) = 2", "count(4) = 3", "undo() = 2", "shift(0, 600) = 600", "count(4) = 3", "undo() = 2",
            "'0' = 1", "count(4) = 2", "evaluate(0) = 2", "count(4) = 3", "undo() = 2", "shift(0, 0) = 600", "undo() = 2",
            "row(0, 0) = 600", "resize(0, 0) = 600", "not(0) = 0", "count(4) = 4", "undo() = 3", "write(0, 0, 1) = 1",
            "count(4) = 4");
        Sentence.holds(10, "of a method that is called an action", "make() = 0", "append(0, 1, 3) = 3", "type(49) = 1",
            "clearText() = 1", "type(120) = 1", "evaluate(0) = -1000", "failure(0) = 1", "count(4) = 2", "row(0, 0) = 3",
            "word(0, 0) = 7", "bit(0, 0) = 1", "rank(0, 1) = 1", "select(0, 1) = 1", "would(3, 0, 0, 2) = 0",
            "same(0) = 0", "bestShift(0) = 0", "count(4) = 2", "undo() = 1", "row(0, 0) = 0");
    }

    private static void errors() {
        Sentence.holds(10, "A call that returns an error code changes nothing (a failure of a text is kept, however).",
            "make() = 0", "append(0, 1, 590) = 590", "'0|4' = 3", "count(4) = 2", "append(0, 0, 11) = -3",
            "write(0, 0, 11) = -3", "set(0, 590, 0) = -1", "resize(0, 601) = -1", "operate(0, 4, 0, 0) = -1",
            "not(1) = -1", "shift(0, 601) = -1", "type(256) = -1", "evaluate(1) = -1", "failure(0) = -9",
            "evaluate(0) = -1002", "failure(0) = 2", "failure(3) = -1", "evaluate(1) = -1", "failure(1) = 2",
            "row(0, 0) = 590", "row(0, 5) = 590", "count(0) = 1", "count(4) = 2", "count(5) = 3", "undo() = 1 0 -2",
            "count(5) = 3");
        Sentence.holds(14, "NONE is no error, and it is returned only if no error condition applies.", "make() = 0",
            "row(0, 6) = -9", "row(0, 8) = -1", "row(1, 6) = -1", "word(0, 0) = -9", "word(1, 0) = -1", "word(0, -1) = -1",
            "select(0, 0) = -9", "select(1, 0) = -1", "select(0, -1) = -1", "failure(0) = -9", "failure(2) = -9",
            "failure(3) = -1", "failure(-1) = -1");
        Sentence.holds(18, "The constants: `INVALID_ARGUMENT = -1`: An argument is out of range, or names something that"
            + " does not exist.", "bit(0, 0) = -1", "make() = 0", "bit(0, 0) = -1", "append(0, 1, 1) = 1",
            "bit(0, 0) = 1", "bit(0, 1) = -1");
        Sentence.holds(10, "`ILLEGAL_STATE = -2`: The call is not possible in the present state.", "undo() = -2",
            "make() = 0", "undo() = 0 -2");
        Sentence.holds(11, "`CAPACITY_EXCEEDED = -3`: There is no room.", "make() = 0 1 2 3 4 5 6 7 -3",
            "append(0, 0, 600) = 600", "append(0, 0, 1) = -3", "write(0, 0, 1) = -3", "'" + "0".repeat(100) + "' = 100",
            "type(48) = -3");
        Sentence.holds(17, "`NONE = -9`: There is no such value.", "make() = 0", "word(0, 0) = -9", "append(0, 0, 1) = 1",
            "word(0, 0) = 32769", "word(0, 1) = -9", "row(0, 7) = -9");
    }
}
