/** Rows of bits that are packed into words of fills and literals. */
public final class PackedBits {
    public static final int INVALID_ARGUMENT = -1;
    public static final int ILLEGAL_STATE = -2;
    public static final int CAPACITY_EXCEEDED = -3;
    public static final int NONE = -9;

    private static final int ROW_LIMIT = 8;
    private static final int LENGTH_LIMIT = 600;
    private static final int WRITE_LIMIT = 16;
    private static final int HISTORY_LIMIT = 5;
    private static final int TEXT_LIMIT = 100;
    private static final int NESTING_LIMIT = 8;
    private static final int FAILED = -1000;

    private static final int GROUP_BITS = 15;
    private static final int GROUP_LIMIT = 40;
    private static final int FULL_GROUP = 32767;
    private static final int FILL_LIMIT = 20;
    private static final int ZERO_FILL_CODE = 32768;
    private static final int ONE_FILL_CODE = 49152;

    private static final int AND = 0;
    private static final int OR = 1;
    private static final int WITHOUT = 2;
    private static final int EITHER = 3;

    private final Bits[] rows = new Bits[ROW_LIMIT];
    private int made;
    private final History history = new History();
    private final Expression text = new Expression();
    // Made once, so that no call makes an object.
    private final Bits spare = new Bits();

    public PackedBits() {
        for (int number = 0; number < rows.length; number++) {
            rows[number] = new Bits();
        }
    }

    // ---- rows

    public int make() {
        if (made >= ROW_LIMIT) {
            return CAPACITY_EXCEEDED;
        }
        int number = made;
        record(number);
        rows[number].cutTo(0);
        made++;
        return number;
    }

    public int append(int row, int bit, int many) {
        if (!isRow(row) || !isBit(bit) || !isWithin(many, 1, LENGTH_LIMIT)) {
            return INVALID_ARGUMENT;
        }
        if (rows[row].length + many > LENGTH_LIMIT) {
            return CAPACITY_EXCEEDED;
        }
        record(row);
        rows[row].addRun(bit, many);
        return rows[row].length;
    }

    public int write(int row, int bits, int many) {
        if (!isRow(row) || !isWithin(bits, 0, 65535) || !isWithin(many, 1, WRITE_LIMIT)) {
            return INVALID_ARGUMENT;
        }
        if (rows[row].length + many > LENGTH_LIMIT) {
            return CAPACITY_EXCEEDED;
        }
        record(row);
        rows[row].addNumber(bits, many);
        return Words.size(rows[row]);
    }

    public int set(int row, int at, int bit) {
        if (!isRow(row) || !isPlace(row, at) || !isBit(bit)) {
            return INVALID_ARGUMENT;
        }
        record(row);
        int previous = rows[row].valueAt(at);
        rows[row].putAt(at, bit);
        return previous;
    }

    public int resize(int row, int length) {
        if (!isRow(row) || !isWithin(length, 0, LENGTH_LIMIT)) {
            return INVALID_ARGUMENT;
        }
        record(row);
        int previous = rows[row].length;
        rows[row].cutTo(length);
        return previous;
    }

    // ---- operations

    public int operate(int into, int operation, int one, int other) {
        if (!isRow(into) || !isOperation(operation) || !isRow(one) || !isRow(other)) {
            return INVALID_ARGUMENT;
        }
        record(into);
        int work = Words.work(rows[one], rows[other]);
        rows[into].combine(operation, rows[one], rows[other]);
        return work;
    }

    public int not(int row) {
        if (!isRow(row)) {
            return INVALID_ARGUMENT;
        }
        record(row);
        rows[row].invert();
        return rows[row].ones();
    }

    public int shift(int row, int by) {
        if (!isRow(row) || !isWithin(by, -LENGTH_LIMIT, LENGTH_LIMIT)) {
            return INVALID_ARGUMENT;
        }
        record(row);
        spare.moveFrom(rows[row], by);
        rows[row].copyFrom(spare);
        return rows[row].length;
    }

    public int undo() {
        if (history.kept == 0) {
            return ILLEGAL_STATE;
        }
        Change latest = history.removeLatest();
        made = latest.made;
        rows[latest.number].copyFrom(latest.before);
        return history.kept;
    }

    // ---- texts

    public int type(int character) {
        if (!isWithin(character, 1, 255)) {
            return INVALID_ARGUMENT;
        }
        if (text.length >= TEXT_LIMIT) {
            return CAPACITY_EXCEEDED;
        }
        text.addSign((char) character);
        return text.length;
    }

    public int clearText() {
        int previous = text.length;
        text.length = 0;
        return previous;
    }

    public int evaluate(int into) {
        if (!isRow(into)) {
            return INVALID_ARGUMENT;
        }
        if (!text.read(rows, made)) {
            return FAILED - text.place;
        }
        record(into);
        rows[into].copyFrom(text.result());
        return Words.size(rows[into]);
    }

    public int failure(int what) {
        if (!isWithin(what, 0, 2)) {
            return INVALID_ARGUMENT;
        }
        if (text.kind == 0) {
            return NONE;
        }
        switch (what) {
            case 0:
                return text.kind;
            case 1:
                return text.place;
            default:
                return text.within;
        }
    }

    // ---- looking

    public int count(int what) {
        switch (what) {
            case 0:
                return made;
            case 1:
                return sum(0);
            case 2:
                return sum(1);
            case 3:
                return sum(5);
            case 4:
                return history.kept;
            case 5:
                return text.length;
            default:
                return INVALID_ARGUMENT;
        }
    }

    public int row(int row, int what) {
        if (!isRow(row) || !isWithin(what, 0, 7)) {
            return INVALID_ARGUMENT;
        }
        return property(rows[row], what);
    }

    public int word(int row, int index) {
        if (!isRow(row) || index < 0) {
            return INVALID_ARGUMENT;
        }
        return Words.codeOf(rows[row], index);
    }

    public int bit(int row, int at) {
        if (!isRow(row) || !isPlace(row, at)) {
            return INVALID_ARGUMENT;
        }
        return rows[row].valueAt(at);
    }

    public int rank(int row, int at) {
        if (!isRow(row) || !isWithin(at, 0, rows[row].length)) {
            return INVALID_ARGUMENT;
        }
        return rows[row].onesBefore(at);
    }

    public int select(int row, int index) {
        if (!isRow(row) || index < 0) {
            return INVALID_ARGUMENT;
        }
        return rows[row].placeOfOne(index);
    }

    // ---- what could be, which changes nothing

    public int would(int operation, int one, int other, int what) {
        if (!isOperation(operation) || !isRow(one) || !isRow(other) || !isWithin(what, 0, 2)) {
            return INVALID_ARGUMENT;
        }
        if (what == 0) {
            return Words.work(rows[one], rows[other]);
        }
        spare.combine(operation, rows[one], rows[other]);
        return what == 1 ? Words.size(spare) : spare.ones();
    }

    public int same(int row) {
        if (!isRow(row)) {
            return INVALID_ARGUMENT;
        }
        for (int number = 0; number < row; number++) {
            if (rows[number].matches(rows[row])) {
                return number;
            }
        }
        return row;
    }

    public int bestShift(int row) {
        if (!isRow(row)) {
            return INVALID_ARGUMENT;
        }
        int best = 0;
        int smallest = Words.size(rows[row]);
        for (int by = 1; by < GROUP_BITS; by++) {
            spare.moveFrom(rows[row], by);
            int size = Words.size(spare);
            if (size < smallest) {
                smallest = size;
                best = by;
            }
        }
        return best;
    }

    // ---- what the calls share

    /** An action changes one row at most, so the state before it is that row and the number of rows. */
    private void record(int number) {
        history.add(made, number, rows[number]);
    }

    private int sum(int what) {
        int sum = 0;
        for (int number = 0; number < made; number++) {
            sum += property(rows[number], what);
        }
        return sum;
    }

    private static int property(Bits bits, int what) {
        switch (what) {
            case 0:
                return bits.length;
            case 1:
                return Words.size(bits);
            case 2:
                return Words.literals(bits);
            case 3:
                return Words.fillsOf(bits, 0);
            case 4:
                return Words.fillsOf(bits, FULL_GROUP);
            case 5:
                return bits.ones();
            case 6:
                return bits.placeOfOne(0);
            default:
                return bits.placeOfOne(bits.ones() - 1);
        }
    }

    private boolean isRow(int number) {
        return isWithin(number, 0, made - 1);
    }

    private boolean isPlace(int number, int at) {
        return isWithin(at, 0, rows[number].length - 1);
    }

    private static boolean isBit(int bit) {
        return isWithin(bit, 0, 1);
    }

    private static boolean isOperation(int operation) {
        return isWithin(operation, AND, EITHER);
    }

    private static boolean isWithin(int number, int least, int most) {
        return number >= least && number <= most;
    }

    /** The bits of one row, cut into groups; the bits behind its length are always 0. */
    private static final class Bits {
        final int[] groups = new int[GROUP_LIMIT];
        int length;

        int groupCount() {
            return (length + GROUP_BITS - 1) / GROUP_BITS;
        }

        int groupAt(int group) {
            return group >= 0 && group < groups.length ? groups[group] : 0;
        }

        int valueAt(int place) {
            return groupAt(place / GROUP_BITS) >> place % GROUP_BITS & 1;
        }

        void putAt(int place, int bit) {
            int group = place / GROUP_BITS;
            if (place < 0 || group >= groups.length) {
                return;
            }
            int mask = 1 << place % GROUP_BITS;
            groups[group] = bit == 1 ? groups[group] | mask : groups[group] & ~mask;
        }

        void copyFrom(Bits other) {
            System.arraycopy(other.groups, 0, groups, 0, GROUP_LIMIT);
            length = other.length;
        }

        /** Cuts, or fills up with the zeros that stand behind the length already. */
        void cutTo(int newLength) {
            for (int group = 0; group < groups.length; group++) {
                groups[group] &= maskBefore(newLength, group);
            }
            length = newLength;
        }

        void addRun(int bit, int many) {
            int end = length + many;
            if (bit == 1) {
                for (int group = 0; group < groups.length; group++) {
                    groups[group] |= maskBefore(end, group) & ~maskBefore(length, group);
                }
            }
            length = end;
        }

        void addNumber(int bits, int many) {
            for (int index = 0; index < many; index++) {
                putAt(length + index, bits >> index & 1);
            }
            length += many;
        }

        void invert() {
            for (int group = 0; group < groups.length; group++) {
                groups[group] ^= maskBefore(length, group);
            }
        }

        /** Either of the two may be this one itself. */
        void combine(int operation, Bits one, Bits other) {
            for (int group = 0; group < groups.length; group++) {
                groups[group] = combined(operation, one.groupAt(group), other.groupAt(group));
            }
            length = Math.max(one.length, other.length);
        }

        private static int combined(int operation, int one, int other) {
            switch (operation) {
                case AND:
                    return one & other;
                case OR:
                    return one | other;
                case WITHOUT:
                    return one & ~other;
                default:
                    return one ^ other;
            }
        }

        /** Becomes another one, shifted; the other one must not be this one itself. */
        void moveFrom(Bits other, int by) {
            int groupsBy = Math.floorDiv(by, GROUP_BITS);
            int bitsBy = Math.floorMod(by, GROUP_BITS);
            for (int group = 0; group < groups.length; group++) {
                int upper = other.groupAt(group - groupsBy) << bitsBy;
                int lower = other.groupAt(group - groupsBy - 1) >> GROUP_BITS - bitsBy;
                groups[group] = (upper | lower) & FULL_GROUP;
            }
            length = Math.max(0, Math.min(LENGTH_LIMIT, other.length + by));
        }

        int ones() {
            return onesBefore(length);
        }

        int onesBefore(int place) {
            int ones = 0;
            for (int group = 0; group < groups.length; group++) {
                ones += Integer.bitCount(groups[group] & maskBefore(place, group));
            }
            return ones;
        }

        int placeOfOne(int index) {
            if (index < 0) {
                return NONE;
            }
            int left = index;
            for (int group = 0; group < groups.length; group++) {
                int here = Integer.bitCount(groups[group]);
                if (left < here) {
                    return group * GROUP_BITS + placeInGroup(groups[group], left);
                }
                left -= here;
            }
            return NONE;
        }

        private static int placeInGroup(int value, int index) {
            int left = index;
            for (int place = 0; place < GROUP_BITS; place++) {
                if ((value >> place & 1) == 1) {
                    if (left == 0) {
                        return place;
                    }
                    left--;
                }
            }
            return NONE;
        }

        boolean matches(Bits other) {
            if (length != other.length) {
                return false;
            }
            for (int group = 0; group < groups.length; group++) {
                if (groups[group] != other.groupAt(group)) {
                    return false;
                }
            }
            return true;
        }

        /** The bits of a group that stand before a place of the row. */
        private static int maskBefore(int place, int group) {
            int bits = Math.max(0, Math.min(GROUP_BITS, place - group * GROUP_BITS));
            return (1 << bits) - 1;
        }
    }

    /** The words into which bits are packed, in the shortest form. */
    private static final class Words {
        static boolean isLiteral(int value) {
            return value != 0 && value != FULL_GROUP;
        }

        /** The first group behind the word that begins with a group. */
        static int endOf(Bits bits, int begin) {
            int all = bits.groupCount();
            if (begin >= all) {
                // Behind the end of a row there is a fill that does not end.
                return GROUP_LIMIT;
            }
            int value = bits.groupAt(begin);
            if (isLiteral(value)) {
                return begin + 1;
            }
            int most = Math.min(all, begin + FILL_LIMIT);
            for (int end = begin + 1; end < most; end++) {
                if (bits.groupAt(end) != value) {
                    return end;
                }
            }
            return most;
        }

        static int size(Bits bits) {
            return literals(bits) + fillsOf(bits, 0) + fillsOf(bits, FULL_GROUP);
        }

        static int literals(Bits bits) {
            int literals = 0;
            int all = bits.groupCount();
            for (int group = 0; group < all; group++) {
                if (isLiteral(bits.groupAt(group))) {
                    literals++;
                }
            }
            return literals;
        }

        static int fillsOf(Bits bits, int value) {
            int fills = 0;
            int begin = 0;
            int all = bits.groupCount();
            for (int group = 0; group < all; group++) {
                if (group == begin) {
                    begin = endOf(bits, group);
                    fills += bits.groupAt(group) == value ? 1 : 0;
                }
            }
            return fills;
        }

        static int codeOf(Bits bits, int index) {
            int left = index;
            int begin = 0;
            int all = bits.groupCount();
            for (int group = 0; group < all; group++) {
                if (group == begin) {
                    begin = endOf(bits, group);
                    if (left == 0) {
                        return code(bits.groupAt(group), begin - group);
                    }
                    left--;
                }
            }
            return NONE;
        }

        private static int code(int value, int many) {
            if (isLiteral(value)) {
                return value;
            }
            return (value == 0 ? ZERO_FILL_CODE : ONE_FILL_CODE) + many;
        }

        /** A step ends where the next one begins: at each place at which a word of either row does. */
        static int work(Bits one, Bits other) {
            int steps = 0;
            int beginOfOne = 0;
            int beginOfOther = 0;
            int all = Math.max(one.groupCount(), other.groupCount());
            for (int group = 0; group < all; group++) {
                if (group == beginOfOne || group == beginOfOther) {
                    steps++;
                }
                if (group == beginOfOne) {
                    beginOfOne = endOf(one, group);
                }
                if (group == beginOfOther) {
                    beginOfOther = endOf(other, group);
                }
            }
            return steps;
        }
    }

    /** A recorded state, as far as the action that followed could change it. */
    private static final class Change {
        final Bits before = new Bits();
        int made;
        int number;
    }

    /** The latest states, the oldest one first. */
    private static final class History {
        private final Change[] changes = new Change[HISTORY_LIMIT];
        int kept;

        History() {
            for (int index = 0; index < changes.length; index++) {
                changes[index] = new Change();
            }
        }

        void add(int made, int number, Bits before) {
            if (kept == HISTORY_LIMIT) {
                dropOldest();
            }
            Change latest = changes[kept];
            latest.made = made;
            latest.number = number;
            latest.before.copyFrom(before);
            kept++;
        }

        private void dropOldest() {
            Change oldest = changes[0];
            for (int index = 1; index < changes.length; index++) {
                changes[index - 1] = changes[index];
            }
            changes[HISTORY_LIMIT - 1] = oldest;
            kept--;
        }

        Change removeLatest() {
            kept = Math.max(0, kept - 1);
            return changes[kept];
        }
    }

    /** The text, read as an expression, and the latest failure of it. */
    private static final class Expression {
        private static final int NOT_ALLOWED = 1;
        private static final int NOT_THERE = 2;
        private static final int NUMBER_DIGITS = 3;
        // No character has this code.
        private static final char END = 0;
        // While a factor is read, each nesting keeps at most the left sides of a sum and a product.
        private static final int VALUE_LIMIT = 2 * (NESTING_LIMIT + 1) + 1;

        private final char[] signs = new char[TEXT_LIMIT];
        int length;
        // The latest failure; of the kind 0 if there was none.
        int kind;
        int place;
        int within;

        private final Bits[] values = new Bits[VALUE_LIMIT];
        // The rows that are read from; none before the first reading.
        private Bits[] rows = new Bits[0];
        private int made;
        private int at;
        private boolean failed;

        Expression() {
            for (int slot = 0; slot < values.length; slot++) {
                values[slot] = new Bits();
            }
        }

        void addSign(char sign) {
            if (length < signs.length) {
                signs[length] = sign;
                length++;
            }
        }

        Bits result() {
            return values[0];
        }

        /** Tells whether the text did not fail; if so, the result stands. */
        boolean read(Bits[] theRows, int theMade) {
            rows = theRows;
            made = theMade;
            at = 0;
            failed = false;
            if (readSum(0, 0) && nextSign() != END) {
                breakOff(0);
            }
            return !failed;
        }

        private boolean readSum(int slot, int depth) {
            if (!readProduct(slot, depth)) {
                return false;
            }
            for (int parts = 1; parts <= TEXT_LIMIT; parts++) {
                char sign = nextSign();
                if (sign != '|' && sign != '^') {
                    return true;
                }
                at++;
                if (!readProduct(slot + 1, depth)) {
                    return false;
                }
                combineAt(slot, sign == '|' ? OR : EITHER);
            }
            return true;
        }

        private boolean readProduct(int slot, int depth) {
            if (!readFactor(slot, depth)) {
                return false;
            }
            for (int parts = 1; parts <= TEXT_LIMIT; parts++) {
                char sign = nextSign();
                if (sign != '&' && sign != '-') {
                    return true;
                }
                at++;
                if (!readFactor(slot + 1, depth)) {
                    return false;
                }
                combineAt(slot, sign == '&' ? AND : WITHOUT);
            }
            return true;
        }

        private void combineAt(int slot, int operation) {
            if (slot >= 0 && slot + 1 < values.length) {
                values[slot].combine(operation, values[slot], values[slot + 1]);
            }
        }

        private boolean readFactor(int slot, int depth) {
            char sign = nextSign();
            if (sign != '~' && sign != '(') {
                return readRow(slot, depth);
            }
            if (depth >= NESTING_LIMIT || slot >= values.length) {
                return breakOff(depth);
            }
            at++;
            if (sign == '(') {
                return readBracket(slot, depth + 1);
            }
            if (!readFactor(slot, depth + 1)) {
                return false;
            }
            values[slot].invert();
            return true;
        }

        private boolean readBracket(int slot, int depth) {
            if (!readSum(slot, depth)) {
                return false;
            }
            if (nextSign() != ')') {
                return breakOff(depth);
            }
            at++;
            return true;
        }

        private boolean readRow(int slot, int depth) {
            int number = readNumber(depth, made - 1);
            if (number < 0) {
                return false;
            }
            char sign = nextSign();
            int by = 0;
            if (sign == '<' || sign == '>') {
                at++;
                by = readNumber(depth, LENGTH_LIMIT);
                if (by < 0) {
                    return false;
                }
            }
            // After a failure the text is only read on for one of the kind 1.
            if (!failed && number < rows.length && slot < values.length) {
                values[slot].moveFrom(rows[number], sign == '>' ? -by : by);
            }
            return true;
        }

        /** Answers a negative number if there is none where one must stand. */
        private int readNumber(int depth, int most) {
            if (!isDigit(nextSign())) {
                breakOff(depth);
                return NONE;
            }
            int first = at;
            int number = 0;
            for (int digits = 0; digits < NUMBER_DIGITS && isDigit(signHere()); digits++) {
                if (digits == 1 && number == 0) {
                    break;
                }
                number = number * 10 + (signHere() - '0');
                at++;
            }
            if (isDigit(signHere())) {
                breakOff(depth);
                return NONE;
            }
            if (number > most && !failed) {
                fail(NOT_THERE, first, depth);
            }
            return number;
        }

        private char nextSign() {
            while (at < length && signHere() == ' ') {
                at++;
            }
            return signHere();
        }

        private char signHere() {
            return at < length && at < signs.length ? signs[at] : END;
        }

        private static boolean isDigit(char sign) {
            return sign >= '0' && sign <= '9';
        }

        /** Comes ahead of any failure that is known already. */
        private boolean breakOff(int depth) {
            fail(NOT_ALLOWED, at, depth);
            return false;
        }

        private void fail(int newKind, int newPlace, int newWithin) {
            failed = true;
            kind = newKind;
            place = newPlace;
            within = newWithin;
        }
    }
}
