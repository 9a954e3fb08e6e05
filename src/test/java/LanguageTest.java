import java.io.IOException;
import java.lang.reflect.Field;
import java.lang.reflect.Method;
import java.lang.reflect.Modifier;
import java.nio.file.Files;
import java.nio.file.Path;
import java.util.Arrays;
import java.util.HashSet;
import java.util.Set;
import java.util.TreeSet;
import java.util.regex.Matcher;
import java.util.regex.Pattern;

/** What can be seen of the rules of LANGUAGE.md from the source and from the compiled classes. */
public final class LanguageTest {
    private static final Checker C = new Checker();
    private static final String FACE = "feed5 load1 fault1 put3 drop1 shift1 undo0 note2 windows2 weight3 net4 pin2 "
            + "tones2 match3 fit2 ranked2 overall1 chord1 distance2 way3 cost0 key1 ties0 through2 unsure2 second1 "
            + "within1 lasting1 firm0 segments0 segment2 pivot2 roman1 outside0 progression1 confirmed1 learnt2 "
            + "foreign2 close0 degree2 name2 count1";

    private LanguageTest() {
    }

    public static void main(String[] args) throws IOException {
        String path = System.getProperty("keypath.source", "src/main/java/KeyPath.java");
        String source = Files.readString(Path.of(path));
        face();
        classes();
        words(plain(source));
        lengths(plain(source));
        C.finish();
    }

    private static void face() {
        Set<String> due = new TreeSet<>(Arrays.asList(FACE.split(" ")));
        Set<String> open = new TreeSet<>();
        for (Method method : KeyPath.class.getDeclaredMethods()) {
            if (!Modifier.isPrivate(method.getModifiers())) {
                open.add(method.getName() + method.getParameterCount());
                C.due("rule 1 public " + method.getName(), Modifier.isPublic(method.getModifiers()) ? 1 : 0, 1);
                C.due("rule 1 int " + method.getName(), method.getReturnType() == int.class ? 1 : 0, 1);
            }
        }
        C.due("rule 1 the face: " + open, open.equals(due) ? 1 : 0, 1);
        C.due("rule 1 final", Modifier.isFinal(KeyPath.class.getModifiers()) ? 1 : 0, 1);
        C.due("rule 1 constructors", KeyPath.class.getDeclaredConstructors().length, 1);
        for (Field field : KeyPath.class.getDeclaredFields()) {
            boolean none = field.getName().equals("NONE");
            C.due("rule 1 private " + field.getName(), Modifier.isPrivate(field.getModifiers()) || none ? 1 : 0, 1);
        }
    }

    private static void classes() {
        Set<String> open = new HashSet<>();
        for (String method : FACE.split(" ")) {
            open.add(method.replaceAll("\\d", ""));
        }
        Class<?>[] inside = KeyPath.class.getDeclaredClasses();
        C.due("rule 11 classes", inside.length <= 11 ? 1 : 0, 1);
        for (Class<?> type : inside) {
            C.due("rule 2 static " + type, Modifier.isStatic(type.getModifiers()) ? 1 : 0, 1);
            members(type);
            for (Method method : type.getDeclaredMethods()) {
                C.due("rule 1 name " + method.getName(), open.contains(method.getName()) ? 1 : 0, 0);
            }
        }
        members(KeyPath.class);
    }

    private static void members(Class<?> type) {
        int fields = 0;
        for (Field field : type.getDeclaredFields()) {
            if (Modifier.isStatic(field.getModifiers())) {
                C.due("rule 5 final " + field.getName(), Modifier.isFinal(field.getModifiers()) ? 1 : 0, 1);
            } else {
                fields++;
            }
        }
        C.due("rule 11 fields of " + type, fields <= 20 ? 1 : 0, 1);
        Set<String> closed = new HashSet<>();
        for (Method method : type.getDeclaredMethods()) {
            C.due("rule 11 parameters of " + method, method.getParameterCount() <= 7 ? 1 : 0, 1);
            if (!Modifier.isPublic(method.getModifiers())) {
                C.due("no two of one name " + method, closed.add(method.getName()) ? 1 : 0, 1);
            }
        }
    }

    /** The source without comments, and without what stands in its texts and signs. */
    private static String plain(String source) {
        return source.replaceAll("(?s)/\\*.*?\\*/", "").replaceAll("//[^\n]*", "")
                .replaceAll("\"[^\"\n]*\"", "\"\"").replaceAll("'[^'\n]*'", "''");
    }

    private static void words(String plain) {
        String[] refused = {"throw", "throws", "try", "catch", "synchronized", "assert", "var", "package", "Object",
            "System.out", "Exact", "double", "float"};
        for (String word : refused) {
            boolean found = Pattern.compile("\\b" + Pattern.quote(word) + "\\b").matcher(plain).find();
            C.due("rule 6 " + word, found ? 1 : 0, 0);
        }
        C.due("rule 2 lambda", plain.contains("->") || plain.contains("::") ? 1 : 0, 0);
        Matcher imports = Pattern.compile("import ([^;]*);").matcher(plain);
        while (imports.find()) {
            C.due("rule 4 " + imports.group(1), imports.group(1).equals("java.util.Arrays") ? 1 : 0, 1);
        }
        Matcher system = Pattern.compile("\\b(System|Arrays|Math|Integer|Long)\\.(\\w+)").matcher(plain);
        Set<String> library = Set.of("arraycopy", "fill", "min", "max");
        while (system.find()) {
            C.due("rule 4 " + system.group(), library.contains(system.group(2)) ? 1 : 0, 1);
        }
    }

    /** A method begins with a line that opens a brace behind a bracket, at most two classes deep. */
    private static void lengths(String plain) {
        String[] lines = plain.split("\n");
        Pattern head = Pattern.compile("^( {4}| {8})(\\S.*)\\) \\{$");
        for (int i = 0; i < lines.length; i++) {
            Matcher method = head.matcher(lines[i]);
            if (!method.matches() || method.group(2).matches("(if|for|while|switch|\\}).*")) {
                continue;
            }
            int end = i;
            while (end < lines.length && !lines[end].equals(method.group(1) + "}")) {
                end++;
            }
            C.due("rule 11 length of " + method.group(2), end - i + 1 <= 60 ? 1 : 0, 1);
        }
    }
}
