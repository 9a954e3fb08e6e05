import java.io.IOException;
import java.lang.reflect.Method;
import java.lang.reflect.Modifier;
import java.nio.file.Files;
import java.nio.file.Path;
import java.util.regex.Matcher;
import java.util.regex.Pattern;

/** What README.md tells of the class: its example answers so, and it names every call. */
public final class ReadmeTest {
    private static final Pattern CALL = Pattern.compile("x\\.(\\w+)\\((.*)\\);\\s+// (-?\\d+).*");
    private static final Pattern TEXT = Pattern.compile("tell\\(x, \"(.*)\"\\);\\s+// (-?\\d+).*");

    private ReadmeTest() {
    }

    public static void main(String[] args) throws IOException {
        Path source = Path.of(System.getProperty("keypath.source", "src/main/java/KeyPath.java")).toAbsolutePath();
        String readme = Files.readString(source.resolve("../../../../README.md").normalize());
        Checker checker = new Checker();
        example(checker, readme);
        face(checker, readme);
        checker.finish();
    }

    private static void example(Checker checker, String readme) {
        Run run = Run.of(checker);
        int found = 0;
        for (String line : readme.split("\n")) {
            Matcher call = CALL.matcher(line);
            Matcher text = TEXT.matcher(line);
            if (call.matches()) {
                String told = (call.group(1) + " " + call.group(2).replace(",", "")).trim();
                run.is(told, Integer.parseInt(call.group(3)));
                found++;
            } else if (text.matches()) {
                run.is("text " + text.group(1), Integer.parseInt(text.group(2)));
                found++;
            }
        }
        checker.due("README.md has an example", found > 20 ? 1 : 0, 1);
    }

    private static void face(Checker checker, String readme) {
        for (Method method : KeyPath.class.getDeclaredMethods()) {
            if (Modifier.isPublic(method.getModifiers())) {
                boolean named = readme.contains("`" + method.getName() + "`");
                checker.due("README.md names " + method.getName(), named ? 1 : 0, 1);
            }
        }
    }
}
