import java.util.ArrayList;
import java.util.List;

/** Arguments that stand in many promises, each tried at its boundaries; a # stands for the argument. */
final class Edges {
    private static final int[] FAR_OFF = {Integer.MIN_VALUE, -65536, -256, 256, 65536, Integer.MAX_VALUE};

    private Edges() {
    }

    /** Tries the numbers of rows of an object with none, one and eight of them; a row that answers holds three ones. */
    static void row(int promise, String words, String call, int answer) {
        List<String> calls = new ArrayList<>();
        refused(calls, call, 0, -1);
        calls.add("make() = 0");
        calls.add("append(0, 1, 3) = 3");
        refused(calls, call, 0, 0);
        calls.add(of(call, 0, answer));
        calls.add("make() = 1 2 3 4 5 6 7 -3");
        calls.add("append(7, 1, 3) = 3");
        refused(calls, call, 0, 7);
        calls.add(of(call, 7, answer));
        Sentence.holds(promise, words, calls.toArray(new String[0]));
    }

    /** Tries numbers that are out of range, which change nothing, between other calls. */
    static String[] refusing(String[] before, String call, int least, int most, String... after) {
        List<String> calls = new ArrayList<>(List.of(before));
        refused(calls, call, least, most);
        calls.addAll(List.of(after));
        return calls.toArray(new String[0]);
    }

    private static void refused(List<String> calls, String call, int least, int most) {
        calls.add(of(call, least - 1, -1));
        calls.add(of(call, most + 1, -1));
        for (int number : FAR_OFF) {
            if (number < least || number > most) {
                calls.add(of(call, number, -1));
            }
        }
    }

    static String[] calls(String... calls) {
        return calls;
    }

    private static String of(String call, int number, int answer) {
        return call.replace("#", String.valueOf(number)) + " = " + answer;
    }
}
