import java.util.Random;

/**
 * Runs of all the 512 calls that an object is used for, over full rows (100 NOTES, 48 WINDOWS, 700 bytes, more ACTS
 * than can be UNDONE), on the class and on the Model.
 */
public final class LongRunTest {
    private static final String[] ACTS = {"put", "put", "drop", "shift", "undo", "undo", "undo"};
    private static final String[] TERMS = {"windows", "weight", "net", "pin", "pin", "pin"};
    private static final String[] CHEAP = {"note", "tones", "match", "fit", "ranked", "overall", "chord", "way", "cost",
        "key", "segments", "segment", "pivot", "roman", "outside", "progression", "confirmed", "learnt", "foreign",
        "close", "count"};
    /** What the Model works out by long ways. */
    private static final String[] DEAR = {"ties", "through", "unsure", "second", "within", "lasting", "firm"};

    private final Random random;
    private final Twin twin;

    private LongRunTest(Checker checker, long seed) {
        this.random = new Random(seed);
        this.twin = new Twin(checker, "long run " + seed);
    }

    public static void main(String[] args) throws ReflectiveOperationException {
        long from = args.length > 0 ? Long.parseLong(args[0]) : 1;
        long to = args.length > 1 ? Long.parseLong(args[1]) : 24;
        Checker checker = new Checker();
        for (long seed = from; seed <= to && checker.wrong() < 5; seed++) {
            new LongRunTest(checker, seed).run();
        }
        checker.finish();
    }

    private void run() throws ReflectiveOperationException {
        if (random.nextInt(3) == 0) {
            flatten();
        }
        fill();
        // The longest text takes 39 calls.
        while (twin.calls() < Twin.MOST_CALLS - 40) {
            int kind = random.nextInt(20);
            if (kind < 7) {
                ask(ACTS);
            } else if (kind < 9) {
                ask(TERMS);
            } else if (kind < 11) {
                ask(DEAR);
            } else {
                ask(CHEAP);
            }
            if (random.nextInt(120) == 0) {
                twin.load(text());
            }
        }
        while (twin.calls() < Twin.MOST_CALLS) {
            ask(random.nextInt(8) == 0 ? DEAR : CHEAP);
        }
    }

    /** Few unlike WEIGHTS: many PATHS that cost alike. */
    private void flatten() throws ReflectiveOperationException {
        for (int step = 0; step < 12; step++) {
            twin.ask("weight", 0, step, random.nextInt(2));
            twin.ask("weight", 1, step, random.nextInt(2));
        }
        twin.ask("net", random.nextInt(4), random.nextInt(4), random.nextInt(4), random.nextInt(3));
    }

    private void fill() throws ReflectiveOperationException {
        int hop = 4 + random.nextInt(8);
        if (random.nextBoolean()) {
            twin.load(text());
        } else {
            for (int i = 0; i < 101; i++) {
                twin.ask("put", random.nextInt(48 * hop), 1 + random.nextInt(2 * hop), 30 + random.nextInt(70));
            }
        }
        twin.ask("windows", 4 + random.nextInt(3 * hop), hop);
        for (int i = random.nextInt(6); i > 0; i--) {
            ask("pin");
        }
    }

    /** Up to 102 NOTES, 516 TICKS or 700 bytes, whichever comes first: just inside the limits, or just beyond one. */
    private String text() {
        StringBuilder text = new StringBuilder();
        int mostNotes = 60 + random.nextInt(43);
        int mostTicks = 400 + random.nextInt(117);
        int longest = 2 + random.nextInt(30);
        int names = 1 + random.nextInt(6);
        int ticks = 0;
        for (int notes = 0; notes < mostNotes && ticks < mostTicks && text.length() < 660;) {
            if (random.nextInt(8) == 0) {
                text.append("-:1");
                ticks++;
            }
            int number = Math.min(mostNotes - notes, 1 + random.nextInt(names));
            int length = Math.min(mostTicks - ticks, 1 + random.nextInt(longest));
            if (length < 1) {
                break;
            }
            part(text, number);
            text.append(':').append(length);
            notes += number;
            ticks += length;
        }
        if (random.nextInt(8) == 0) {
            text.setCharAt(random.nextInt(text.length()), "c#!5:-()| h".charAt(random.nextInt(11)));
        }
        return text.toString();
    }

    private void part(StringBuilder text, int names) {
        text.append(names > 1 ? "(" : random.nextBoolean() ? " " : "|");
        int pitch = 48 + random.nextInt(12);
        for (int i = 0; i < names; i++) {
            String name = "c c# d d# e f f# g g# a a# b".split(" ")[pitch % 12];
            text.append(name).append(pitch / 12 - 1);
            pitch += 3 + random.nextInt(2);
        }
        text.append(names > 1 ? ")" : "");
    }

    private void ask(String... names) throws ReflectiveOperationException {
        String name = names[random.nextInt(names.length)];
        twin.ask(name, arguments(name));
    }

    /** From 0 on, now and then one too many or one too few. */
    private int below(int edge) {
        int odd = random.nextInt(40);
        return odd == 0 ? edge : odd == 1 ? -1 : random.nextInt(edge);
    }

    private int[] arguments(String name) {
        switch (name) {
            case "put": return new int[] {below(512), 1 + below(random.nextInt(4) == 0 ? 64 : 12), below(128)};
            case "drop": return new int[] {below(100)};
            case "shift": return new int[] {random.nextInt(3) == 0 ? random.nextInt(80) - 40 : random.nextInt(3) - 1};
            case "windows": return new int[] {4 + below(125), 4 + below(random.nextInt(5) == 0 ? 125 : 12)};
            case "weight": return new int[] {below(2), below(12), below(100)};
            case "net": return new int[] {random.nextInt(60), random.nextInt(60), random.nextInt(60), below(5)};
            case "pin": return new int[] {below(48), random.nextInt(3) > 0 ? -1 : below(24)};
            case "note": return new int[] {below(100), below(4)};
            case "tones": case "learnt": return new int[] {below(name.equals("tones") ? 48 : 2), below(12)};
            case "match": return new int[] {below(48), below(24), below(2)};
            case "fit": case "ranked": case "through": case "foreign": return new int[] {below(48), below(24)};
            case "overall": return new int[] {below(24)};
            case "chord": case "key": case "roman": return new int[] {below(48)};
            case "way": return new int[] {below(24), below(24), below(8)};
            case "unsure": return new int[] {below(48), below(random.nextBoolean() ? 40 : 10000)};
            case "second": return new int[] {below(2)};
            case "within": return new int[] {below(random.nextBoolean() ? 12 : 48)};
            case "lasting": return new int[] {1 + below(16)};
            case "segment": case "pivot": return new int[] {below(16), below(4)};
            case "progression": return new int[] {below(40)};
            case "confirmed": return new int[] {below(12)};
            case "count": return new int[] {below(12)};
            default: return new int[0];
        }
    }
}
