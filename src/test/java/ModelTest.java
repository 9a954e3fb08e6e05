import java.util.Random;

/** Runs of calls, told by a seed, on the class and on the Model; every answer must be the same. */
public final class ModelTest {
    private static final String[] CHANGES = {"feed", "load", "put", "drop", "shift", "undo", "windows", "weight",
        "net", "pin"};
    private static final String[] QUESTIONS = {"fault", "note", "tones", "match", "fit", "ranked", "overall",
        "chord", "distance", "way", "cost", "key", "ties", "through", "unsure", "second", "within", "lasting",
        "firm", "segments", "segment", "pivot", "roman", "outside", "progression", "confirmed", "learnt",
        "foreign", "close", "degree", "name", "count"};

    private final Random random;
    private final Twin twin;

    private ModelTest(Checker checker, long seed) {
        this.random = new Random(seed);
        this.twin = new Twin(checker, "seed " + seed);
    }

    public static void main(String[] args) throws ReflectiveOperationException {
        long from = args.length > 0 ? Long.parseLong(args[0]) : 1;
        long to = args.length > 1 ? Long.parseLong(args[1]) : 1500;
        Checker checker = new Checker();
        for (long seed = from; seed <= to && checker.wrong() < 5; seed++) {
            new ModelTest(checker, seed).run();
        }
        checker.finish();
    }

    private void run() throws ReflectiveOperationException {
        int style = random.nextInt(8);
        if (style < 5) {
            twin.load(piece(style));
        }
        if (style == 6) {
            twin.load(piece(0));
            terms();
        }
        for (int call = 0; call < 60; call++) {
            if (random.nextInt(4) == 0) {
                change(style);
            } else {
                String name = QUESTIONS[random.nextInt(QUESTIONS.length)];
                twin.ask(name, arguments(name));
            }
        }
        if (random.nextInt(3) == 0) {
            everything();
        }
    }

    /** Each question once, so that a rare state is looked at from all sides. */
    private void everything() throws ReflectiveOperationException {
        for (String name : QUESTIONS) {
            twin.ask(name, arguments(name));
        }
    }

    // ---- texts

    private String piece(int style) {
        StringBuilder text = new StringBuilder();
        int parts = 1 + random.nextInt(style == 1 ? 3 : 14);
        for (int i = 0; i < parts; i++) {
            int kind = random.nextInt(10);
            int number = style == 2 ? 1 + random.nextInt(64) : 8 * (1 + random.nextInt(3));
            if (kind < 2) {
                text.append('-');
            } else if (kind < 4) {
                text.append(name(60 + random.nextInt(12)));
            } else {
                triad(text);
            }
            text.append(':').append(kind == 0 ? 40 : number).append(random.nextInt(3) == 0 ? " | " : " ");
        }
        return style == 3 ? broken(text) : text.toString();
    }

    private void triad(StringBuilder text) {
        int[][] kinds = {{4, 7}, {3, 7}, {3, 6}};
        int[] roots = {0, 5, 7, 9, 2, 4, 11};
        int root = random.nextInt(5) > 0 ? roots[random.nextInt(7)] : random.nextInt(12);
        int[] above = kinds[random.nextInt(3)];
        text.append('(').append(name(60 + root)).append(name(60 + root + above[0]))
                .append(name(60 + root + above[1])).append(')');
    }

    private String name(int pitch) {
        String[] sharp = {"c", "c#", "d", "d#", "e", "f", "f#", "g", "g#", "a", "a#", "b"};
        String[] flat = {"c", "d!", "d", "e!", "e", "f", "g!", "g", "a!", "a", "b!", "b"};
        String[] names = random.nextBoolean() ? sharp : flat;
        String blank = random.nextInt(9) == 0 ? " " : "";
        return names[pitch % 12] + blank + (pitch / 12 - 1) + blank;
    }

    private String broken(StringBuilder text) {
        String signs = "cdefgab#!0123456789:-()| |hx;" + (char) 0 + (char) 255;
        for (int i = 0; i <= random.nextInt(3); i++) {
            int at = random.nextInt(text.length());
            char sign = signs.charAt(random.nextInt(signs.length()));
            int way = random.nextInt(3);
            if (way == 0) {
                text.setCharAt(at, sign);
            } else if (way == 1) {
                text.insert(at, sign);
            } else {
                text.deleteCharAt(at);
            }
        }
        return text.toString();
    }

    // ---- calls

    private void terms() throws ReflectiveOperationException {
        for (int i = 0; i < 24; i++) {
            twin.ask("weight", random.nextInt(2), random.nextInt(12), random.nextInt(3) * random.nextInt(50));
        }
        twin.ask("net", random.nextInt(3) * random.nextInt(400), random.nextInt(3) * random.nextInt(400),
                random.nextInt(3) * random.nextInt(400), random.nextInt(6));
    }

    private void change(int style) throws ReflectiveOperationException {
        String name = CHANGES[random.nextInt(CHANGES.length)];
        if (name.equals("load") || name.equals("feed")) {
            int kind = random.nextInt(6);
            if (kind == 0) {
                twin.load(piece(random.nextInt(4)));
            } else if (kind == 1) {
                twin.ask("feed", random.nextInt(), 0x63343a38, 0x20202020, 0x20202020, 0x20202020);
            } else if (kind == 2) {
                twin.ask("load", random.nextInt(4) == 0 ? random.nextInt(800) - 50 : 0);
            }
            return;
        }
        twin.ask(name, arguments(name));
    }

    private int window() {
        return odd() ? near(48) : random.nextInt(12);
    }

    private int key() {
        return odd() ? near(24) : random.nextInt(24);
    }

    private int upTo(int most) {
        return odd() ? near(most + 1) : random.nextInt(most + 1);
    }

    private boolean odd() {
        return random.nextInt(12) == 0;
    }

    private int near(int edge) {
        int[] odd = {-1, -2, 0, edge - 1, edge, edge + 1, Integer.MIN_VALUE, Integer.MAX_VALUE};
        return odd[random.nextInt(odd.length)];
    }

    private int[] arguments(String name) {
        switch (name) {
            case "put": return new int[] {odd() ? near(512) : random.nextInt(random.nextBoolean() ? 60 : 500),
                1 + upTo(40), odd() ? near(128) : 60 + random.nextInt(13)};
            case "drop": return new int[] {upTo(12)};
            case "shift": return new int[] {odd() ? near(128) : random.nextInt(30) - 15};
            case "windows": return new int[] {odd() ? near(129) : 4 + random.nextInt(60),
                odd() ? near(129) : random.nextBoolean() ? 4 + random.nextInt(20) : 4 + random.nextInt(125)};
            case "weight": return new int[] {upTo(1), upTo(11), upTo(99)};
            case "net": return new int[] {price(), price(), price(), random.nextBoolean() ? upTo(3) : upTo(100)};
            case "pin": return new int[] {window(), random.nextInt(3) == 0 ? -1 : key()};
            case "fault": case "second": return new int[] {upTo(1)};
            case "note": return new int[] {upTo(20), upTo(3)};
            case "tones": return new int[] {window(), random.nextInt(5) == 0 ? -1 : upTo(11)};
            case "match": return new int[] {window(), key(), upTo(1)};
            case "fit": case "ranked": case "through": case "foreign": return new int[] {window(), key()};
            case "overall": return new int[] {key()};
            case "chord": case "key": case "roman": return new int[] {window()};
            case "distance": return new int[] {key(), key()};
            case "way": return new int[] {key(), key(), upTo(7)};
            case "unsure": return new int[] {window(), random.nextBoolean() ? upTo(500) : upTo(9999)};
            case "within": return new int[] {random.nextBoolean() ? upTo(5) : upTo(47)};
            case "lasting": return new int[] {odd() ? near(17) : 1 + random.nextInt(6)};
            case "segment": case "pivot": return new int[] {upTo(5), upTo(3)};
            case "progression": return new int[] {random.nextInt(4) == 0 ? -1 : upTo(8)};
            case "confirmed": return new int[] {upTo(5)};
            case "learnt": return new int[] {upTo(1), upTo(11)};
            case "degree": return new int[] {upTo(35), key()};
            case "name": return new int[] {key(), upTo(3)};
            case "count": return new int[] {upTo(11)};
            default: return new int[0];
        }
    }

    private int price() {
        int kind = random.nextInt(4);
        return kind == 0 ? 0 : kind == 1 ? upTo(999) : random.nextInt(100);
    }
}
