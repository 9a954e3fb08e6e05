import java.lang.reflect.Method;
import java.nio.charset.StandardCharsets;
import java.util.ArrayList;
import java.util.Arrays;
import java.util.HashMap;
import java.util.List;
import java.util.Map;

/** An object of the class and one of the Model that hear the same calls; every answer must be the same. */
final class Twin {
    static final int MOST_CALLS = 512;
    private static final Map<String, Method> FACE = new HashMap<>();

    static {
        for (Method method : KeyPath.class.getDeclaredMethods()) {
            FACE.put(method.getName(), method);
        }
    }

    private final Checker checker;
    private final String name;
    private final KeyPath x = new KeyPath();
    private final Model model = new Model();
    private final List<String> told = new ArrayList<>();

    Twin(Checker checker, String name) {
        this.checker = checker;
        this.name = name;
    }

    int calls() {
        return told.size();
    }

    int ask(String call, int... a) throws ReflectiveOperationException {
        Object[] boxed = Arrays.stream(a).boxed().toArray();
        int got = (Integer) FACE.get(call).invoke(x, boxed);
        int want = model.call(call, a);
        told.add(call + Arrays.toString(a) + " " + want);
        int wrong = checker.wrong();
        checker.due(name + ", call " + told.size() + ": " + call + Arrays.toString(a), got, want);
        if (checker.wrong() > wrong) {
            System.out.println(String.join("\n", told.subList(Math.max(0, told.size() - 40), told.size())));
        }
        return want;
    }

    /** Feeds a text, of which 700 bytes at most are taken, and loads it. */
    int load(String text) throws ReflectiveOperationException {
        byte[] bytes = text.getBytes(StandardCharsets.ISO_8859_1);
        for (int at = 0; at < Math.min(700, bytes.length); at += 20) {
            ask("feed", Player.four(bytes, at), Player.four(bytes, at + 4), Player.four(bytes, at + 8),
                    Player.four(bytes, at + 12), Player.four(bytes, at + 16));
        }
        int answer = ask("load", Math.min(700, bytes.length));
        ask("fault", 0);
        ask("fault", 1);
        ask("count", 0);
        return answer;
    }
}
