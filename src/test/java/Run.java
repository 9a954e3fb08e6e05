import java.lang.reflect.Method;
import java.nio.charset.StandardCharsets;
import java.util.ArrayList;
import java.util.HashMap;
import java.util.List;
import java.util.Map;

/**
 * An object and the calls made on it, told as texts: "put 0 4 60", "pin 0 NONE", "load MIN", "load ALL" (all that is
 * on the tape), "text c4:4" (feeds it and loads just that).
 */
final class Run {
    /** What an object answers behind these is free, so no test may look at it. */
    private static final int MOST_CALLS = 512;
    private static final Map<String, Method> FACE = new HashMap<>();

    static {
        for (Method method : KeyPath.class.getDeclaredMethods()) {
            FACE.put(method.getName(), method);
        }
    }

    private final Checker checker;
    private final KeyPath x = new KeyPath();
    private final List<String> past = new ArrayList<>();
    private int calls;

    private Run(Checker checker) {
        this.checker = checker;
    }

    static Run of(Checker checker, String... past) {
        return new Run(checker).does(past);
    }

    /** Calls whose answers are not looked at. */
    Run does(String... texts) {
        for (String text : texts) {
            answer(text);
        }
        return this;
    }

    Run times(int number, String text) {
        for (int i = 0; i < number; i++) {
            answer(text);
        }
        return this;
    }

    Run is(String text, int due) {
        checker.due(text, answer(text), due);
        return this;
    }

    /** Like calls, of which the last argument goes from 0 on. */
    Run row(String text, int... dues) {
        for (int i = 0; i < dues.length; i++) {
            is(text + " " + i, dues[i]);
        }
        return this;
    }

    /** A refused call: its code, and that whatever is asked behind it is answered as if it had not been. */
    Run refuses(String text, int code) {
        checker.due(text, again().answer(text), code);
        for (List<String> questions : Questions.ALL) {
            compare(text, again().does(text), again(), questions);
        }
        return this;
    }

    /** A text with a FAULT: the tape is empty then, nothing else changes. */
    Run refusesText(String text, int fault, int place) {
        Run other = again();
        checker.due("load " + text, other.answer("text " + text), -30 - fault);
        checker.due("fault of " + text, other.answer("fault 0"), fault);
        checker.due("place of " + text, other.answer("fault 1"), place);
        checker.due("tape after " + text, other.answer("count 4"), 0);
        for (List<String> questions : Questions.BUT_TAPE) {
            compare(text, again().does("text " + text), again(), questions);
        }
        return this;
    }

    private void compare(String text, Run with, Run without, List<String> questions) {
        for (String question : questions) {
            checker.due(question + " behind refused " + text, with.answer(question), without.answer(question));
        }
    }

    /** A new object with the same past. */
    Run again() {
        return of(checker, past.toArray(new String[0]));
    }

    int answer(String text) {
        past.add(text);
        if (text.startsWith("text ")) {
            return load(text.substring(5));
        }
        String[] words = text.split(" ");
        Object[] numbers = new Object[words.length - 1];
        for (int i = 0; i < numbers.length; i++) {
            numbers[i] = number(words[i + 1]);
        }
        return call(words[0], numbers);
    }

    private int load(String text) {
        byte[] bytes = text.getBytes(StandardCharsets.ISO_8859_1);
        for (int at = 0; at < bytes.length; at += 20) {
            call("feed", Player.four(bytes, at), Player.four(bytes, at + 4), Player.four(bytes, at + 8),
                    Player.four(bytes, at + 12), Player.four(bytes, at + 16));
        }
        return call("load", bytes.length);
    }

    private int number(String word) {
        switch (word) {
            case "NONE": return KeyPath.NONE;
            case "MIN": return Integer.MIN_VALUE;
            case "MAX": return Integer.MAX_VALUE;
            case "ALL": return call("count", 4);
            default: return Integer.parseInt(word);
        }
    }

    private int call(String name, Object... numbers) {
        calls++;
        if (calls > MOST_CALLS) {
            throw new IllegalStateException("a test makes more than " + MOST_CALLS + " calls");
        }
        try {
            return (Integer) FACE.get(name).invoke(x, numbers);
        } catch (ReflectiveOperationException failed) {
            throw new IllegalStateException(name, failed);
        }
    }
}
