import java.util.ArrayList;
import java.util.List;

/** Reads a text sign by sign with stacks, where the program calls itself. */
final class ModelReader {
    int kind = 0;
    int place;
    int within;
    private final String text;
    private final List<String> rows;
    private final StringBuilder signs = new StringBuilder();
    private final List<String> values = new ArrayList<>();
    private int at = 0;

    ModelReader(String text, List<String> rows) {
        this.text = text;
        this.rows = rows;
        boolean operandIsDue = true;
        while (kind != 1) {
            skipSpaces();
            if (operandIsDue && isAt("~(")) {
                open();
            } else if (operandIsDue) {
                operand();
                operandIsDue = false;
            } else if (isAt("|^&-")) {
                apply(isAt("|^") ? "|^&-" : "&-");
                signs.append(text.charAt(at++));
                operandIsDue = true;
            } else if (isAt(")") && signs.indexOf("(") >= 0) {
                apply("|^&-");
                signs.setLength(signs.length() - 1);
                at++;
                apply("~");
            } else if (at == text.length() && signs.indexOf("(") < 0) {
                apply("|^&-");
                return;
            } else {
                fail(1, at);
            }
        }
    }

    String result() {
        return values.get(0);
    }

    private boolean isAt(String some) {
        return at < text.length() && some.indexOf(text.charAt(at)) >= 0;
    }

    private void skipSpaces() {
        while (isAt(" ")) {
            at++;
        }
    }

    private int nesting() {
        return signs.toString().replaceAll("[^~(]", "").length();
    }

    private void fail(int newKind, int newPlace) {
        if (newKind == 1 || kind == 0) {
            kind = newKind;
            place = newPlace;
            within = nesting();
        }
    }

    private void open() {
        if (nesting() == 8) {
            fail(1, at);
            return;
        }
        signs.append(text.charAt(at++));
    }

    private void operand() {
        int row = number(rows.size() - 1);
        String bits = row < rows.size() && kind == 0 ? rows.get(row) : "";
        skipSpaces();
        if (kind != 1 && isAt("<>")) {
            int direction = isAt("<") ? 1 : -1;
            at++;
            skipSpaces();
            int by = number(600);
            bits = Model.shifted(bits, kind == 0 ? direction * by : 0);
        }
        if (kind != 1) {
            values.add(bits);
            apply("~");
        }
    }

    private int number(int most) {
        int first = at;
        while (isAt("0123456789")) {
            if (at - first == 3 || at > first && text.charAt(first) == '0') {
                fail(1, at);
                return 0;
            }
            at++;
        }
        if (at == first) {
            fail(1, at);
            return 0;
        }
        int number = Integer.parseInt(text.substring(first, at));
        if (number > most) {
            fail(2, first);
        }
        return number;
    }

    /** Does what stands on top, as long as it is one of some signs. */
    private void apply(String some) {
        while (signs.length() > 0 && some.indexOf(signs.charAt(signs.length() - 1)) >= 0) {
            char sign = signs.charAt(signs.length() - 1);
            signs.setLength(signs.length() - 1);
            String last = values.remove(values.size() - 1);
            if (sign == '~') {
                values.add(Model.inverted(last));
            } else {
                values.add(Model.combined("&|-^".indexOf(sign), values.remove(values.size() - 1), last));
            }
        }
    }
}
