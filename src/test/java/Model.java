import java.util.ArrayList;
import java.util.List;

/** The document once more, told as plainly as can be: rows are texts of 0 and 1, a state is a copy of all rows. */
final class Model {
    private List<String> rows = new ArrayList<>();
    private final List<List<String>> history = new ArrayList<>();
    private final StringBuilder text = new StringBuilder();
    private int kind = 0;
    private int place;
    private int within;

    private boolean lacks(int row) {
        return row < 0 || row >= rows.size();
    }

    private void record() {
        history.add(rows);
        rows = new ArrayList<>(rows);
        if (history.size() > 5) {
            history.remove(0);
        }
    }

    private static String zeros(int many) {
        return "0".repeat(Math.max(0, many));
    }

    private static String padded(String bits, int length) {
        return bits + zeros(length - bits.length());
    }

    private static int ones(String bits) {
        return bits.replace("0", "").length();
    }

    static List<String> groups(String bits) {
        List<String> groups = new ArrayList<>();
        for (int at = 0; at < bits.length(); at += 15) {
            groups.add(padded(bits.substring(at, Math.min(bits.length(), at + 15)), 15));
        }
        return groups;
    }

    /** The code and the number of groups of each word. */
    static List<int[]> words(String bits) {
        List<int[]> words = new ArrayList<>();
        for (String group : groups(bits)) {
            int[] last = words.isEmpty() ? new int[] {0, 0} : words.get(words.size() - 1);
            int fill = ones(group) == 0 ? 32768 : ones(group) == 15 ? 49152 : 0;
            if (fill == 0) {
                words.add(new int[] {Integer.parseInt(new StringBuilder(group).reverse().toString(), 2), 1});
            } else if (last[0] > fill && last[0] < fill + 20) {
                last[0]++;
                last[1]++;
            } else {
                words.add(new int[] {fill + 1, 1});
            }
        }
        return words;
    }

    static int work(String one, String other) {
        boolean[] ends = new boolean[41];
        for (String bits : new String[] {one, other}) {
            int end = 0;
            for (int[] word : words(bits)) {
                end += word[1];
                ends[end] = true;
            }
        }
        int work = 0;
        for (boolean end : ends) {
            work += end ? 1 : 0;
        }
        return work;
    }

    static String combined(int operation, String one, String other) {
        int length = Math.max(one.length(), other.length());
        StringBuilder bits = new StringBuilder();
        for (int at = 0; at < length; at++) {
            boolean a = at < one.length() && one.charAt(at) == '1';
            boolean b = at < other.length() && other.charAt(at) == '1';
            boolean c = operation == 0 ? a && b : operation == 1 ? a || b : operation == 2 ? a && !b : a != b;
            bits.append(c ? '1' : '0');
        }
        return bits.toString();
    }

    static String inverted(String bits) {
        return bits.replace('0', 'x').replace('1', '0').replace('x', '1');
    }

    static String shifted(String bits, int by) {
        String moved = by >= 0 ? zeros(by) + bits : bits.substring(Math.min(bits.length(), -by));
        return moved.substring(0, Math.min(600, moved.length()));
    }

    int make() {
        if (rows.size() == 8) {
            return -3;
        }
        record();
        rows.add("");
        return rows.size() - 1;
    }

    int append(int row, int bit, int many) {
        if (lacks(row) || bit < 0 || bit > 1 || many < 1 || many > 600) {
            return -1;
        }
        if (rows.get(row).length() + many > 600) {
            return -3;
        }
        record();
        rows.set(row, rows.get(row) + (bit == 1 ? "1" : "0").repeat(many));
        return rows.get(row).length();
    }

    int write(int row, int bits, int many) {
        if (lacks(row) || bits < 0 || bits > 65535 || many < 1 || many > 16) {
            return -1;
        }
        if (rows.get(row).length() + many > 600) {
            return -3;
        }
        record();
        int left = bits;
        for (int times = 0; times < many; times++) {
            rows.set(row, rows.get(row) + left % 2);
            left /= 2;
        }
        return words(rows.get(row)).size();
    }

    int set(int row, int at, int bit) {
        if (lacks(row) || at < 0 || at >= rows.get(row).length() || bit < 0 || bit > 1) {
            return -1;
        }
        record();
        String bits = rows.get(row);
        rows.set(row, bits.substring(0, at) + bit + bits.substring(at + 1));
        return bits.charAt(at) - '0';
    }

    int resize(int row, int length) {
        if (lacks(row) || length < 0 || length > 600) {
            return -1;
        }
        record();
        String bits = rows.get(row);
        rows.set(row, padded(bits, length).substring(0, length));
        return bits.length();
    }

    int operate(int into, int operation, int one, int other) {
        if (lacks(into) || operation < 0 || operation > 3 || lacks(one) || lacks(other)) {
            return -1;
        }
        record();
        int work = work(rows.get(one), rows.get(other));
        rows.set(into, combined(operation, rows.get(one), rows.get(other)));
        return work;
    }

    int not(int row) {
        if (lacks(row)) {
            return -1;
        }
        record();
        rows.set(row, inverted(rows.get(row)));
        return ones(rows.get(row));
    }

    int shift(int row, int by) {
        if (lacks(row) || by < -600 || by > 600) {
            return -1;
        }
        record();
        rows.set(row, shifted(rows.get(row), by));
        return rows.get(row).length();
    }

    int undo() {
        if (history.isEmpty()) {
            return -2;
        }
        rows = history.remove(history.size() - 1);
        return history.size();
    }

    int type(int character) {
        if (character < 1 || character > 255) {
            return -1;
        }
        if (text.length() == 100) {
            return -3;
        }
        text.append((char) character);
        return text.length();
    }

    int clearText() {
        int previous = text.length();
        text.setLength(0);
        return previous;
    }

    int evaluate(int into) {
        if (lacks(into)) {
            return -1;
        }
        ModelReader reader = new ModelReader(text.toString(), rows);
        if (reader.kind != 0) {
            kind = reader.kind;
            place = reader.place;
            within = reader.within;
            return -1000 - place;
        }
        record();
        rows.set(into, reader.result());
        return words(reader.result()).size();
    }

    int failure(int what) {
        if (what < 0 || what > 2) {
            return -1;
        }
        return kind == 0 ? -9 : new int[] {kind, place, within}[what];
    }

    int count(int what) {
        if (what < 0 || what > 5) {
            return -1;
        }
        int[] counts = {rows.size(), 0, 0, 0, history.size(), text.length()};
        for (String bits : rows) {
            counts[1] += bits.length();
            counts[2] += words(bits).size();
            counts[3] += ones(bits);
        }
        return counts[what];
    }

    int row(int row, int what) {
        if (lacks(row) || what < 0 || what > 7) {
            return -1;
        }
        String bits = rows.get(row);
        int[] kinds = new int[4];
        for (int[] word : words(bits)) {
            kinds[word[0] / 16384]++;
        }
        int first = bits.indexOf('1');
        int last = bits.lastIndexOf('1');
        int[] all = {bits.length(), words(bits).size(), kinds[0] + kinds[1], kinds[2], kinds[3], ones(bits),
            first < 0 ? -9 : first, last < 0 ? -9 : last};
        return all[what];
    }

    int word(int row, int index) {
        if (lacks(row) || index < 0) {
            return -1;
        }
        List<int[]> words = words(rows.get(row));
        return index < words.size() ? words.get(index)[0] : -9;
    }

    int bit(int row, int at) {
        return lacks(row) || at < 0 || at >= rows.get(row).length() ? -1 : rows.get(row).charAt(at) - '0';
    }

    int rank(int row, int at) {
        return lacks(row) || at < 0 || at > rows.get(row).length() ? -1 : ones(rows.get(row).substring(0, at));
    }

    int select(int row, int index) {
        if (lacks(row) || index < 0) {
            return -1;
        }
        int at = -1;
        for (int times = 0; times <= index; times++) {
            at = rows.get(row).indexOf('1', at + 1);
            if (at < 0) {
                return -9;
            }
        }
        return at;
    }

    int would(int operation, int one, int other, int what) {
        if (operation < 0 || operation > 3 || lacks(one) || lacks(other) || what < 0 || what > 2) {
            return -1;
        }
        String result = combined(operation, rows.get(one), rows.get(other));
        return what == 0 ? work(rows.get(one), rows.get(other)) : what == 1 ? words(result).size() : ones(result);
    }

    int same(int row) {
        return lacks(row) ? -1 : rows.indexOf(rows.get(row));
    }

    int bestShift(int row) {
        if (lacks(row)) {
            return -1;
        }
        int best = 0;
        for (int by = 14; by >= 0; by--) {
            if (words(shifted(rows.get(row), by)).size() <= words(shifted(rows.get(row), best)).size()) {
                best = by;
            }
        }
        return best;
    }
}
