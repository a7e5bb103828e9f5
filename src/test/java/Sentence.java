import java.lang.reflect.Method;
import java.util.ArrayList;
import java.util.Arrays;
import java.util.List;
import java.util.regex.Matcher;
import java.util.regex.Pattern;

/**
 * A sentence of the document and the calls that show that it holds, each told as "name(arguments) = answer".
 * Several answers are those of the same call made as often; "new" stands for a new object, and a text between
 * two ' for the calls that clear the text and type it (the answer is its length). The model has to give the
 * same answers, so that it is not a second opinion alone.
 */
final class Sentence {
    private static final int CALL_LIMIT = 512;
    private static final Pattern TYPED = Pattern.compile("'(.*)' = (\\d+)", Pattern.DOTALL);
    private static final Pattern CALL = Pattern.compile("(\\w+)\\(([^)]*)\\) =((?: -?\\d+)+)");
    private static final List<Sentence> TOLD = new ArrayList<>();

    private final int promise;
    private final String words;
    private PackedBits x = new PackedBits();
    private Model model = new Model();
    private int calls = 0;

    private Sentence(int promise, String words) {
        this.promise = promise;
        this.words = words;
    }

    static void holds(int promise, String words, String... calls) {
        Sentence sentence = new Sentence(promise, words);
        TOLD.add(sentence);
        for (String call : calls) {
            sentence.make(call);
        }
    }

    /** Tells whether a test was made for a clause, of this promise or (0) of any. */
    static boolean isTold(int promise, String clause) {
        for (Sentence sentence : TOLD) {
            String told = Document.plain(sentence.words);
            if ((promise == 0 || sentence.promise == promise) && (told.contains(clause) || clause.contains(told))) {
                return true;
            }
        }
        return false;
    }

    static void standIn(Document document) {
        for (Sentence sentence : TOLD) {
            Due.holds(sentence + " stands in the document", document.says(sentence.promise, sentence.words));
        }
    }

    @Override
    public String toString() {
        return "Promise " + promise + ", \"" + words + "\"";
    }

    private void make(String call) {
        Matcher typed = TYPED.matcher(call);
        Matcher named = CALL.matcher(call);
        if (call.equals("new")) {
            x = new PackedBits();
            model = new Model();
            calls = 0;
        } else if (typed.matches()) {
            type(typed.group(1), Integer.parseInt(typed.group(2)));
        } else if (named.matches()) {
            for (String answer : named.group(3).trim().split(" ")) {
                due(named.group(1), numbers(named.group(2)), Integer.parseInt(answer));
            }
        } else {
            Due.holds(this + ": can be read: " + call, false);
        }
    }

    private void type(String text, int length) {
        due("clearText", new Object[0], model.count(5));
        for (int index = 0; index < text.length(); index++) {
            due("type", new Object[] {(int) text.charAt(index)}, index + 1);
        }
        due("count", new Object[] {5}, length);
    }

    private static Object[] numbers(String arguments) {
        if (arguments.isEmpty()) {
            return new Object[0];
        }
        return Arrays.stream(arguments.split(", ")).map(Integer::valueOf).toArray();
    }

    private void due(String name, Object[] arguments, int answer) {
        calls++;
        String call = this + ": " + name + Arrays.toString(arguments);
        Due.holds(call + " is within the calls of an object", calls <= CALL_LIMIT);
        Due.that(call, ask(x, name, arguments), answer);
        Due.that("the model, " + call, ask(model, name, arguments), answer);
    }

    private static int ask(Object asked, String name, Object[] arguments) {
        Class<?>[] types = new Class<?>[arguments.length];
        Arrays.fill(types, int.class);
        try {
            Method method = asked.getClass().getDeclaredMethod(name, types);
            return (int) method.invoke(asked, arguments);
        } catch (ReflectiveOperationException fault) {
            throw new IllegalStateException(name + Arrays.toString(arguments), fault);
        }
    }
}
