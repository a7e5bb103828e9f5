/** Many runs of just 512 calls, each answer compared with the model's; the numbers come from a fixed row. */
final class ModelTest {
    private static final int RUNS = 360;
    private static final int CALLS = 512;
    // As many as an evaluation can take, with its text and its failure.
    private static final int EVALUATION_CALLS = 110;
    private static final int UNDO_CALLS = 4;
    private static final String SIGNS = "0123456789 ~()<>|^&-x";

    private final int run;
    private long seed;
    private int left = CALLS;
    private final PackedBits x;
    private final Model model;

    private ModelTest(int run) {
        this.run = run;
        seed = run * 7919L + 17;
        x = new PackedBits();
        model = new Model();
    }

    public static void main(String[] args) {
        for (int run = 0; run < RUNS && !Due.anyWrong(); run++) {
            new ModelTest(run).calls(run % 3);
        }
        Due.finish("ModelTest");
    }

    private int below(int bound) {
        seed = seed * 6364136223846793005L + 1442695040888963407L;
        return (int) ((seed >>> 33) % bound);
    }

    private int oneOf(int... some) {
        return some[below(some.length)];
    }

    private int aRow() {
        int made = model.count(0);
        return below(25) == 0 || made == 0 ? oneOf(-1, 8, made, Integer.MIN_VALUE, Integer.MAX_VALUE) : below(made);
    }

    private int aNumber(int least, int most) {
        int kind = below(40);
        if (kind == 0) {
            return oneOf(least - 1, most + 1, Integer.MIN_VALUE, Integer.MAX_VALUE);
        }
        return kind < 6 ? oneOf(least, most) : least + below(most - least + 1);
    }

    private int aLength(int row) {
        return Math.max(0, model.row(row, 0));
    }

    private void calls(int style) {
        while (left > 0) {
            if (style == 2 && left >= EVALUATION_CALLS && below(4) == 0) {
                evaluation();
            } else if (left < UNDO_CALLS || below(5) < 2) {
                look();
            } else {
                act(style);
            }
        }
    }

    private void due(String call, int got, int want) {
        left--;
        Due.that("run " + run + ": " + call, got, want);
    }

    private void act(int style) {
        int row = aRow();
        switch (below(12)) {
            case 0:
                due("make", x.make(), model.make());
                return;
            case 1:
            case 2:
            case 3:
                append(row, style);
                return;
            case 4:
                int bits = aNumber(0, 65535);
                int many = aNumber(1, 16);
                due("write", x.write(row, bits, many), model.write(row, bits, many));
                return;
            case 5:
                int at = aNumber(0, Math.max(0, aLength(row) - 1));
                int bit = aNumber(0, 1);
                due("set", x.set(row, at, bit), model.set(row, at, bit));
                return;
            case 6:
                int length = below(3) > 0 ? aNumber(0, aLength(row)) : aNumber(0, 600);
                due("resize", x.resize(row, length), model.resize(row, length));
                return;
            case 7:
                due("not", x.not(row), model.not(row));
                return;
            case 8:
                int by = below(3) > 0 ? aNumber(-20, 20) : aNumber(-600, 600);
                due("shift", x.shift(row, by), model.shift(row, by));
                return;
            case 9:
                undos();
                return;
            default:
                int operation = aNumber(0, 3);
                int one = aRow();
                int other = aRow();
                due("operate", x.operate(row, operation, one, other), model.operate(row, operation, one, other));
        }
    }

    private void append(int row, int style) {
        int bit = aNumber(0, 1);
        int many = style == 0 ? aNumber(1, 600) : below(3) == 0 ? 15 * aNumber(1, 25) : aNumber(1, 40);
        due("append", x.append(row, bit, many), model.append(row, bit, many));
    }

    private void undos() {
        for (int times = 1 + below(UNDO_CALLS); times > 0; times--) {
            due("undo", x.undo(), model.undo());
        }
    }

    private void look() {
        int row = aRow();
        int what = aNumber(0, 7);
        switch (below(10)) {
            case 0:
                due("count", x.count(what), model.count(what));
                return;
            case 1:
            case 2:
                due("row", x.row(row, what), model.row(row, what));
                return;
            case 3:
                int index = aNumber(0, Math.max(0, model.row(row, 1)));
                due("word", x.word(row, index), model.word(row, index));
                return;
            case 4:
                int at = aNumber(0, aLength(row));
                due("bit", x.bit(row, at), model.bit(row, at));
                return;
            case 5:
                int end = aNumber(0, aLength(row));
                due("rank", x.rank(row, end), model.rank(row, end));
                return;
            case 6:
                int one = aNumber(0, Math.max(0, model.row(row, 5)));
                due("select", x.select(row, one), model.select(row, one));
                return;
            case 7:
                due("same", x.same(row), model.same(row));
                return;
            case 8:
                due("bestShift", x.bestShift(row), model.bestShift(row));
                return;
            default:
                int operation = aNumber(0, 3);
                int other = aRow();
                int part = aNumber(0, 2);
                due("would", x.would(operation, row, other, part), model.would(operation, row, other, part));
        }
    }

    /** Types a text, evaluates it and looks at the failure. */
    private void evaluation() {
        StringBuilder text = new StringBuilder();
        expression(text, 0);
        int spoils = below(3) == 0 ? 1 + below(2) : 0;
        for (int times = 0; times < spoils; times++) {
            spoil(text);
        }
        due("clearText", x.clearText(), model.clearText());
        for (int index = 0; index < text.length() && index < 102; index++) {
            due("type", x.type(text.charAt(index)), model.type(text.charAt(index)));
        }
        int into = aRow();
        due("evaluate of " + text, x.evaluate(into), model.evaluate(into));
        for (int what = -1; what <= 3; what++) {
            due("failure(" + what + ") of " + text, x.failure(what), model.failure(what));
        }
    }

    private void spoil(StringBuilder text) {
        int at = below(text.length() + 1);
        switch (below(4)) {
            case 0:
                text.insert(at, SIGNS.charAt(below(SIGNS.length())));
                return;
            case 1:
                text.setLength(at);
                return;
            case 2:
                text.insert(at, (char) (1 + below(255)));
                return;
            default:
                if (at < text.length()) {
                    text.deleteCharAt(at);
                }
        }
    }

    private void space(StringBuilder text) {
        while (below(6) == 0) {
            text.append(' ');
        }
    }

    private void expression(StringBuilder text, int depth) {
        factor(text, depth);
        while (below(3 + depth / 2) > 1 - depth % 2 && text.length() < 60 && below(3) > 0) {
            text.append("|^&-".charAt(below(4)));
            factor(text, depth);
        }
    }

    private void factor(StringBuilder text, int depth) {
        space(text);
        int kind = below(10);
        if (kind < 3 && depth < 9) {
            text.append('~');
            factor(text, depth + 1);
        } else if (kind < 6 && depth < 9) {
            text.append('(');
            expression(text, depth + 1);
            text.append(')');
        } else {
            text.append(below(30) == 0 ? below(12) : below(Math.max(1, model.count(0))));
            space(text);
            if (below(3) == 0) {
                text.append("<>".charAt(below(2)));
                space(text);
                text.append(below(12) == 0 ? 590 + below(20) : below(40));
            }
        }
        space(text);
    }
}
