import java.nio.charset.StandardCharsets;

/** Promise by promise: ordinary inputs, the edges that the document names, wrong inputs. */
public final class PromiseTest {
    private static final Checker C = new Checker();
    private static final int LEAST = Integer.MIN_VALUE;
    private static final int MOST = Integer.MAX_VALUE;
    /** C, F, G, C, sixteen ticks each. */
    private static final String CADENCE = "(c4 e4 g4):16 (f4 a4 c5):16 | (g4 b4 d5):16 (c4 e4 g4):16";

    private PromiseTest() {
    }

    public static void main(String[] args) {
        newObject();
        feed();
        load();
        textFaults();
        faultsInChords();
        fault();
        put();
        drop();
        shift();
        undo();
        note();
        windows();
        weight();
        net();
        pin();
        tones();
        match();
        fit();
        ranked();
        overall();
        chord();
        distance();
        way();
        cost();
        key();
        ties();
        through();
        unsure();
        second();
        within();
        lasting();
        firm();
        segments();
        segment();
        pivot();
        roman();
        outside();
        progression();
        confirmed();
        learnt();
        foreign();
        close();
        degree();
        name();
        count();
        C.finish();
    }

    private static KeyPath cadence() {
        KeyPath x = new KeyPath();
        x.windows(16, 16);
        Player.load(x, CADENCE);
        return x;
    }

    /** Windows of 16 ticks side by side. */
    private static KeyPath blocks(String text) {
        KeyPath x = new KeyPath();
        x.windows(16, 16);
        C.due("load of " + text, Player.load(x, text) > 0 ? 1 : 0, 1);
        return x;
    }

    /** No PATH: a silent window is pinned otherwise than the one ahead. */
    private static KeyPath pathless() {
        KeyPath x = blocks("c4:16 -:16 c4:16");
        x.pin(0, 0);
        x.pin(1, 7);
        return x;
    }

    private static void newObject() {
        KeyPath x = new KeyPath();
        C.due("1 NOTES", x.count(0), 0);
        C.due("1 THE END", x.count(2), 0);
        C.due("1 ACTS", x.count(3), 0);
        C.due("1 bytes", x.count(4), 0);
        C.due("1 no note", x.note(0, 0), -2);
        C.due("1 NONE", KeyPath.NONE, -1);
        x.put(0, 1, 1);
        C.due("1 objects are apart", new KeyPath().count(0), 0);
    }

    private static void feed() {
        KeyPath x = new KeyPath();
        C.due("2 feed", x.feed(0x63343a31, 0x36202020, 0x2d3a3820, 0x64353a34, 0x20202020), 20);
        C.due("2 highest byte first", x.load(20), 2);
        C.due("2 first pitch", x.note(0, 2), 60);
        C.due("2 second pitch", x.note(1, 2), 74);
        C.due("2 second tick", x.note(1, 0), 24);
        for (int i = 1; i <= 35; i++) {
            C.due("2 feed " + i, x.feed(LEAST, MOST, -1, 0, 1), 20 * i);
        }
        C.due("2 more than 700", x.feed(0, 0, 0, 0, 0), -4);
        C.due("2 nothing came", x.count(4), 700);
        C.due("2 bytes above 127 can't stand", x.load(700), -31);
        C.due("2 tape is empty", x.count(4), 0);
        C.due("2 feed behind that", x.feed(0, 0, 0, 0, 0), 20);
    }

    private static void load() {
        KeyPath x = new KeyPath();
        C.due("3 below 0", x.load(-1), -3);
        C.due("3 least", x.load(LEAST), -3);
        C.due("3 above", x.load(1), -3);
        C.due("3 no byte", x.load(0), 0);
        x.feed(0x63343a31, 0x36206434, 0x3a312020, 0, 0);
        C.due("3 above what there is", x.load(21), -3);
        C.due("3 tape stays", x.count(4), 20);
        C.due("3 the first bytes", x.load(5), 1);
        C.due("3 tape is empty", x.count(4), 0);
        C.due("3 many", Player.load(x, "c4:4 (c4e4g4):8 -:2|b!3:1"), 5);
        C.due("3 in place of all", x.count(0), 5);
        C.due("3 tick of the last", x.note(4, 0), 14);
        C.due("3 pitch of the last", x.note(4, 2), 58);
        C.due("3 chord tick", x.note(3, 0), 4);
        C.due("3 chord by pitch", x.note(2, 2), 64);
        C.due("3 chord long", x.note(2, 1), 8);
        x.put(1, 1, 1);
        C.due("3 refused by fault", Player.load(x, "c4:4 ?"), -31);
        C.due("3 notes stay", x.count(0), 6);
        C.due("3 acts stay", x.count(3), 1);
        C.due("3 empty then", x.count(4), 0);
        C.due("3 of blanks", Player.load(x, "   | || "), 0);
        C.due("3 acts are forgotten", x.count(3), 0);
        C.due("3 nothing to undo", x.undo(), -5);
        KeyPath y = new KeyPath();
        y.feed(0x63342020, 0x3a312020, 0, 0, 0);
        C.due("3 blanks behind it are not read", y.load(2), -31);
        C.due("4 the end", y.fault(1), 2);
        y.feed(0x63343a31, 0x36202020, 0, 0, 0);
        C.due("3 digits behind it are not read", y.load(4), 1);
        C.due("3 but those ahead", y.note(0, 1), 1);
        C.due("3 700 blanks", Player.load(y, " ".repeat(700)), 0);
        C.due("3 700 bytes", Player.load(y, " ".repeat(695) + "c4:64"), 1);
        C.due("3 700 digits", Player.load(y, "c4:" + "0".repeat(697)), -32);
        C.due("3 a chord is sorted", Player.load(x, "(g4 e4 c4):1"), 3);
        C.due("3 lowest first", x.note(0, 2), 60);
        C.due("3 highest last", x.note(2, 2), 67);
    }

    private static void text(String text, int fault, int place) {
        KeyPath x = new KeyPath();
        x.put(3, 3, 3);
        int answer = Player.load(x, text);
        C.due("3 load '" + text + "'", answer < 0 ? answer : 0, fault == 0 ? 0 : -30 - fault);
        C.due("4 fault of '" + text + "'", x.fault(0), fault);
        C.due("4 place of '" + text + "'", x.fault(1), place);
        C.due("3 tape after '" + text + "'", x.count(4), 0);
        if (fault != 0) {
            C.due("3 notes after '" + text + "'", x.count(0), 1);
        }
    }

    private static void textFaults() {
        text("", 0, -1);
        text("c4:1", 0, -1);
        text(" c # 4 : 16 ", 0, -1);
        text("c4:01", 0, -1);
        text("c4:64", 0, -1);
        text("c4:65", 2, 3);
        text("c4:0", 2, 3);
        text("c4:00", 2, 3);
        text("c4:001", 2, 3);
        text("c4: 001", 2, 4);
        text("c4:99999999999999999999", 2, 3);
        text("c4:1 6", 1, 5);
        text("c44:1", 1, 2);
        text("c4:", 1, 3);
        text("c4:  ", 1, 5);
        text("c4", 1, 2);
        text("c", 1, 1);
        text("c#", 1, 2);
        text("c##4:1", 1, 2);
        text("c#!4:1", 1, 2);
        text("4", 1, 0);
        text("h4:1", 1, 0);
        text("C4:1", 1, 0);
        text("a0:1b9:1", 3, 4);
        text("g9:1", 0, -1);
        text("g#9:1", 3, 0);
        text("g!9:1 a!9:1", 3, 6);
        text("c!0:1", 0, -1);
        text("g#9", 3, 0);
        text("g#", 1, 2);
        text("b 9 ?", 3, 0);
        text("b ?", 1, 2);
        text("-:4", 0, -1);
        text("-4:4", 1, 1);
        text("-", 1, 1);
        text("-:0", 2, 2);
        text("|:1", 1, 1);
        text("c4:1\n", 1, 4);
        text("c4:1" + (char) 0, 1, 4);
        text("c4:1" + (char) 227, 1, 4);
        String eight = "-:64-:64-:64-:64-:64-:64-:64-:64";
        text(eight, 0, -1);
        text(eight + "|", 0, -1);
        text(eight + "c4:1", 4, 35);
        text(eight + "c4:0", 2, 35);
        text(eight + "-:1", 4, 34);
        text(eight + "(c4):1", 4, 37);
        text(eight.substring(0, 28) + "c4:63d4:2", 4, 36);
        text(eight.substring(0, 28) + "c4:63d4:1", 0, -1);
    }

    private static void faultsInChords() {
        text("(c4):1", 0, -1);
        text("( c4 d4 e4 f4 g4 a4 ) : 1", 0, -1);
        text("()", 1, 1);
        text("(", 1, 1);
        text("(c4", 1, 3);
        text("(c4:1)", 1, 3);
        text("(c4)", 1, 4);
        text("(c4)1", 1, 4);
        text("(c4|)", 1, 3);
        text("((c4)):1", 1, 1);
        text("(c4 c4):1", 3, 4);
        text("(c#4 d!4):1", 3, 5);
        text("(c4 c", 1, 5);
        text("(b#3 c4):1", 3, 5);
        text("(c4 c5):1", 0, -1);
        text("(c4 d4 e4 f4 g4 a4 b4):1", 3, 19);
        text("(c4 d4 e4 f4 g4 a4 b", 3, 19);
        text("(c4 d4 e4 f4 g4 a4 ?", 1, 19);
        text("(c4 45):1", 1, 4);
        text("(c45):1", 1, 3);
        text("(c4 e4):65", 2, 8);
        StringBuilder many = new StringBuilder();
        for (int i = 0; i < 16; i++) {
            many.append("(c4d4e4f4g4a4):1");
        }
        text(many + "(c4d4e4f4):1", 0, -1);
        text(many + "(c4d4e4f4):1|-:1", 0, -1);
        text(many + "(c4d4e4f4g", 3, 265);
        text(many + "(c4d4e4f4):1c", 3, 268);
        text(many + "(c4d4e4f4):1h", 1, 268);
        KeyPath x = new KeyPath();
        C.due("3 a hundred", Player.load(x, many + "(c4d4e4f4):1"), 100);
        C.due("5 no more", x.put(0, 1, 0), -4);
    }

    private static void fault() {
        KeyPath x = new KeyPath();
        C.due("4 ahead of any", x.fault(0), 0);
        C.due("4 place ahead of any", x.fault(1), -1);
        Player.load(x, "cc");
        C.due("4 fault", x.fault(0), 1);
        C.due("4 place", x.fault(1), 1);
        C.due("4 others", x.fault(2), -1);
        C.due("4 others below", x.fault(-1), -1);
        x.load(5);
        C.due("4 refused loads say nothing", x.fault(0), 1);
        x.feed(0, 0, 0, 0, 0);
        C.due("4 nor does feed", x.fault(1), 1);
        x.load(0);
        C.due("4 of no byte", x.fault(0), 0);
        C.due("4 place of no byte", x.fault(1), -1);
    }

    private static void put() {
        KeyPath x = new KeyPath();
        C.due("5 first", x.put(10, 5, 60), 0);
        C.due("5 earlier", x.put(9, 64, 127), 0);
        C.due("5 later", x.put(511, 1, 0), 2);
        C.due("5 higher", x.put(10, 1, 61), 2);
        C.due("5 longer", x.put(10, 6, 60), 2);
        C.due("5 as they came", x.put(10, 5, 60), 2);
        C.due("5 shorter", x.put(10, 4, 60), 1);
        int[] lengths = new int[7];
        for (int i = 0; i < 7; i++) {
            lengths[i] = x.note(i, 1);
        }
        C.row("5 order", lengths, 64, 4, 5, 5, 6, 1, 1);
        int[][] wrong = {{-1, 1, 1}, {512, 1, 1}, {0, 0, 1}, {0, 65, 1}, {0, 1, -1}, {0, 1, 128}, {500, 13, 1},
            {LEAST, 1, 1}, {MOST, 1, 1}, {0, MOST, 1}, {511, MOST, 1}, {0, LEAST, 1}, {0, 1, LEAST}, {0, 1, MOST}};
        for (int[] a : wrong) {
            C.due("5 put " + a[0] + " " + a[1] + " " + a[2], x.put(a[0], a[1], a[2]), -3);
        }
        C.due("5 nothing came", x.count(0), 7);
        C.due("5 no acts came", x.count(3), 7);
        C.due("5 just to 512", x.put(448, 64, 1), 6);
        for (int i = 8; i < 100; i++) {
            C.due("5 many", x.put(511, 1, 127), i);
        }
        C.due("5 too many", x.put(0, 1, 1), -4);
        C.due("5 the number ahead of it", x.put(0, 0, 1), -3);
        C.due("5 a hundred", x.count(0), 100);
    }

    private static void drop() {
        KeyPath x = Player.playing("c4:1d4:1e4:1");
        C.due("6 below", x.drop(-1), -2);
        C.due("6 above", x.drop(3), -2);
        C.due("6 far", x.drop(MOST), -2);
        C.due("6 no act", x.count(3), 0);
        C.due("6 the middle", x.drop(1), 2);
        C.due("6 the next", x.note(1, 2), 64);
        C.due("6 the last", x.drop(1), 1);
        C.due("6 the first", x.drop(0), 0);
        C.due("6 none left", x.drop(0), -2);
        C.due("6 acts", x.count(3), 3);
        KeyPath y = blocks("c4:16d4:16");
        C.due("6 in the path before", y.key(0), 0);
        y.drop(0);
        C.due("6 silent", y.tones(0, -1), 0);
        C.due("6 in the path", y.key(1), 2);
        C.due("6 cost", y.cost(), 0);
        y.undo();
        C.due("8 sounds again", y.tones(0, 0), 16);
        C.due("8 in the path", y.cost(), 70);
        y.put(0, 16, 64);
        C.due("5 sounds", y.tones(0, 4), 16);
        C.due("5 in the path", y.chord(0), 0);
        y.undo();
        C.due("8 silent again", y.tones(0, 4), 0);
    }

    private static void shift() {
        KeyPath x = new KeyPath();
        C.due("7 without notes", x.shift(127), 0);
        C.due("7 an act", x.count(3), 1);
        C.due("7 too far", x.shift(128), -3);
        C.due("7 too far down", x.shift(-128), -3);
        C.due("7 least", x.shift(LEAST), -3);
        x.put(0, 4, 5);
        x.put(0, 4, 120);
        C.due("7 up", x.shift(7), 2);
        C.due("7 pitch", x.note(1, 2), 127);
        C.due("7 tone", x.note(0, 3), 0);
        C.due("7 above 127", x.shift(1), -3);
        C.due("7 down", x.shift(-12), 2);
        C.due("7 below 0", x.shift(-1), -3);
        C.due("7 nothing changed", x.note(0, 2), 0);
        C.due("7 by nothing", x.shift(0), 2);
        C.due("7 acts", x.count(3), 6);
        KeyPath y = Player.playing("g9:16");
        C.due("7 in the path before", y.key(0), 7);
        C.due("7 farthest down", y.shift(-127), 1);
        C.due("7 in the path", y.key(0), 0);
        C.due("7 farthest up", y.shift(127), 1);
        for (int i = 1; i < 100; i++) {
            y.put(i, 1, 20 + i);
        }
        C.due("7 a hundred", y.shift(-20), 100);
        C.due("7 the last of them", y.note(99, 2), 99);
        C.due("6 the first of a hundred", y.drop(0), 99);
        C.due("6 the last of 99", y.drop(98), 98);
        C.due("8 it is back", y.undo(), 9);
        C.due("8 as is the other", y.undo(), 8);
        C.due("5 a hundred again", y.put(0, 1, 0), -4);
    }

    private static void undo() {
        KeyPath x = new KeyPath();
        C.due("8 none", x.undo(), -5);
        x.put(0, 8, 60);
        x.put(8, 8, 62);
        x.drop(0);
        x.shift(3);
        C.due("8 shift", x.undo(), 3);
        C.due("8 pitch", x.note(0, 2), 62);
        C.due("8 drop", x.undo(), 2);
        C.due("8 note again", x.note(0, 2), 60);
        C.due("8 its long", x.note(0, 1), 8);
        C.due("8 put", x.undo(), 1);
        C.due("8 notes", x.count(0), 1);
        C.due("8 first put", x.undo(), 0);
        C.due("8 no notes", x.count(0), 0);
        C.due("8 no more", x.undo(), -5);
        for (int i = 0; i < 12; i++) {
            x.put(i, 1, i);
        }
        x.put(-1, 0, 0);
        C.due("8 the latest ten", x.count(3), 10);
        for (int i = 9; i >= 0; i--) {
            C.due("8 one by one", x.undo(), i);
        }
        C.due("8 two are left", x.count(0), 2);
        KeyPath y = Player.playing("c4:1d4:2e4:3f4:4g4:5a4:6b4:7c5:8d5:9e5:10f5:11");
        for (int i = 0; i < 11; i++) {
            C.due("8 drops", y.drop(0), 10 - i);
        }
        C.due("8 ten of eleven", y.count(3), 10);
        for (int i = 9; i >= 0; i--) {
            C.due("8 they come back", y.undo(), i);
            C.due("8 as long as they were", y.note(0, 1), i + 2);
        }
        C.due("8 but the first", y.count(0), 10);
        C.due("8 not further", x.undo(), -5);
        x.put(20, 1, 1);
        Player.load(x, "x");
        C.due("8 a fault forgets nothing", x.undo(), 0);
        x.windows(8, 8);
        x.weight(0, 0, 1);
        x.put(30, 1, 1);
        x.undo();
        C.due("8 notes alone", x.count(5), 8);
        C.due("8 weights stay", x.weight(0, 0, 1), 1);
        x.put(30, 1, 1);
        x.load(0);
        C.due("8 load forgets", x.undo(), -5);
    }

    private static void note() {
        KeyPath x = Player.playing("-:3 a#4:7");
        C.due("9 tick", x.note(0, 0), 3);
        C.due("9 long", x.note(0, 1), 7);
        C.due("9 pitch", x.note(0, 2), 70);
        C.due("9 tone", x.note(0, 3), 10);
        C.due("9 what", x.note(0, 4), -2);
        C.due("9 what below", x.note(0, -1), -2);
        C.due("9 note", x.note(1, 0), -2);
        C.due("9 note below", x.note(-1, 0), -2);
    }

    private static void windows() {
        KeyPath x = new KeyPath();
        int[][] wrong = {{3, 8}, {129, 8}, {8, 3}, {8, 129}, {LEAST, MOST}, {0, 0}};
        for (int[] a : wrong) {
            C.due("10 windows " + a[0] + " " + a[1], x.windows(a[0], a[1]), -3);
        }
        C.due("10 wide as it was", x.count(5), 16);
        C.due("10 least", x.windows(4, 4), 0);
        C.due("10 most", x.windows(128, 128), 0);
        x.put(0, 64, 60);
        x.put(128, 64, 60);
        C.due("10 begins ahead of the end", x.windows(4, 64), 3);
        C.due("10 192 by 4", x.windows(4, 4), 48);
        C.due("10 silent ones", x.count(7), 16);
        x.put(192, 1, 60);
        C.due("10 not beyond 48", x.count(1), 48);
        C.due("10 no 49th", x.tones(48, 0), -2);
        C.due("10 too many", x.windows(8, 4), -4);
        C.due("10 wide stays", x.count(5), 4);
        C.due("10 number ahead of many", x.windows(3, 4), -3);
        C.due("10 by 5", x.windows(8, 5), 39);
        x.undo();
        C.due("10 fewer again", x.windows(4, 4), 48);
    }

    private static void weight() {
        KeyPath x = blocks("c4:16");
        C.due("11 first major", x.weight(0, 11, 99), 29);
        C.due("11 was", x.weight(0, 11, 0), 99);
        C.due("11 minor", x.weight(1, 3, 1), 54);
        int[][] wrong = {{-1, 0, 0, -2}, {2, 0, 0, -2}, {0, -1, 0, -2}, {0, 12, 0, -2}, {0, 0, -1, -3},
            {0, 0, 100, -3}, {2, 0, 100, -2}, {MOST, LEAST, MOST, -2}};
        for (int[] a : wrong) {
            C.due("11 weight " + a[0] + " " + a[1] + " " + a[2], x.weight(a[0], a[1], a[2]), a[3]);
        }
        C.due("11 fit before", x.fit(0, 0), 6300);
        C.due("11 path before", x.key(0), 0);
        C.due("11 as it was", x.weight(0, 0, 7), 63);
        C.due("11 counts at once", x.fit(0, 0), 700);
        C.due("11 and in the path", x.key(0), 12);
        int[] major = {63, 22, 35, 23, 44, 41, 25, 52, 24, 37, 23, 29};
        int[] minor = {63, 27, 35, 54, 26, 35, 25, 48, 40, 27, 33, 32};
        KeyPath y = new KeyPath();
        for (int step = 0; step < 12; step++) {
            C.due("11 major at first", y.weight(0, step, 0), major[step]);
            C.due("11 minor at first", y.weight(1, step, 0), minor[step]);
        }
        C.due("11 objects are apart", new KeyPath().weight(0, 0, 0), 63);
    }

    private static void net() {
        KeyPath x = new KeyPath();
        C.due("12 as it was", x.net(999, 0, 999, 100), 1);
        C.due("12 was", x.net(1, 2, 3, 4), 100);
        int[][] wrong = {{-1, 0, 0, 0}, {1000, 0, 0, 0}, {0, -1, 0, 0}, {0, 1000, 0, 0}, {0, 0, -1, 0},
            {0, 0, 1000, 0}, {0, 0, 0, -1}, {0, 0, 0, 101}, {LEAST, MOST, LEAST, MOST}};
        for (int[] a : wrong) {
            C.due("12 net", x.net(a[0], a[1], a[2], a[3]), -3);
        }
        C.due("12 FIFTH", x.count(8), 1);
        C.due("12 RELATIVE", x.count(9), 2);
        C.due("12 PARALLEL", x.count(10), 3);
        C.due("12 FACTOR", x.count(11), 4);
        C.due("12 in DISTANCE", x.distance(0, 7), 4);
        KeyPath y = cadence();
        C.due("12 cost before", y.cost(), 160);
        y.net(40, 30, 60, 2);
        C.due("12 in the path", y.cost(), 320);
    }

    private static void pin() {
        KeyPath x = cadence();
        C.due("13 new", x.pin(0, 23), -1);
        C.due("13 in the path", x.key(0), 23);
        C.due("13 was", x.pin(0, -1), 23);
        C.due("13 no more", x.key(0), 0);
        C.due("13 window", x.pin(48, 0), -2);
        C.due("13 window below", x.pin(-1, 0), -2);
        C.due("13 key", x.pin(0, 24), -2);
        C.due("13 key below", x.pin(0, -2), -2);
        C.due("13 not there", x.pin(47, 4), -1);
        C.due("13 says nothing", x.cost(), 160);
        x.pin(3, 3);
        x.load(0);
        Player.load(x, CADENCE);
        C.due("13 stays", x.key(3), 3);
        C.due("13 stays, too", x.pin(47, -1), 4);
        KeyPath y = pathless();
        C.due("13 pins can't be", y.cost(), -5);
        y.pin(0, 7);
        C.due("13 pins can be", y.cost(), 6300 - 4100 + 40);
        KeyPath z = blocks("c4:16 -:48 c4:16");
        z.pin(1, 5);
        z.pin(3, 6);
        C.due("13 such in a row", z.ties(), -5);
        z.pin(3, 5);
        C.due("13 silent ones, pinned", z.key(0), 5);
    }

    private static void tones() {
        KeyPath x = Player.playing("c4:10 (e4 e5):10");
        C.due("14 of one", x.tones(0, 0), 10);
        C.due("14 all these notes", x.tones(0, 4), 12);
        C.due("14 second window", x.tones(1, 4), 20);
        C.due("14 its first ticks", x.tones(1, 0), 2);
        C.due("14 of all", x.tones(1, -1), 22);
        C.due("14 the last one", x.tones(2, -1), 8);
        C.due("14 none", x.tones(0, 11), 0);
        C.due("14 window", x.tones(3, 0), -2);
        C.due("14 window below", x.tones(-1, 0), -2);
        C.due("14 tone", x.tones(0, 12), -3);
        C.due("14 tone below", x.tones(0, -2), -3);
        C.due("14 window first", x.tones(3, 12), -2);
        KeyPath y = new KeyPath();
        y.put(0, 8, 60);
        y.put(4, 8, 72);
        C.due("14 together", y.tones(0, 0), 16);
    }

    private static void match() {
        KeyPath x = blocks("(c4 e4 g4):16 -:16 d4:6 e4:10");
        C.due("15 upper", x.match(0, 16, 0), 157);
        C.due("15 lower", x.match(0, 16, 1), 3);
        C.due("15 whole", x.match(0, 0, 1), 1);
        C.due("15 silent upper", x.match(1, 0, 0), 0);
        C.due("15 silent lower", x.match(1, 0, 1), 1);
        KeyPath y = blocks("(c4 d4):1");
        C.due("15 lowest at once, upper", y.match(0, 0, 0), 49);
        KeyPath z = blocks("c4:1 d4:2");
        C.due("15 no common one, upper", z.match(0, 0, 0), 133);
        C.due("15 no common one, lower", z.match(0, 0, 1), 3);
        C.due("15 by eight", x.match(2, 0, 1), 8);
        C.due("15 its upper", x.match(2, 0, 0), 3 * 35 + 5 * 44);
        int[][] wrong = {{-1, 0, 0}, {3, 0, 0}, {0, -1, 0}, {0, 24, 0}, {0, 0, -1}, {0, 0, 2}};
        for (int[] a : wrong) {
            C.due("15 match", x.match(a[0], a[1], a[2]), -2);
        }
        x.weight(0, 2, 0);
        x.weight(0, 4, 0);
        C.due("15 nothing by one, upper", x.match(2, 0, 0), 0);
        C.due("15 nothing by one, lower", x.match(2, 0, 1), 1);
    }

    private static void fit() {
        KeyPath x = blocks("(c4 e4 g4):16 -:16 c4:16");
        C.due("16 fit", x.fit(0, 0), 5300);
        C.due("16 downwards", x.fit(0, 16), 5233);
        C.due("16 minor", x.fit(2, 12), 6300);
        C.due("16 its third", x.fit(2, 21), 5400);
        C.due("16 silent", x.fit(1, 5), 0);
        C.due("16 window", x.fit(3, 0), -2);
        C.due("16 key", x.fit(0, 24), -2);
        C.due("16 key below", x.fit(0, -1), -2);
    }

    private static void ranked() {
        KeyPath x = blocks("c4:16 -:16 d4:16");
        C.due("17 greatest", x.ranked(0, 0), 0);
        C.due("17 like ones by number", x.ranked(0, 1), 12);
        C.due("17 next", x.ranked(0, 2), 21);
        C.due("17 least", x.ranked(0, 23), 11);
        C.due("17 silent", x.ranked(1, 17), 17);
        C.due("17 window", x.ranked(3, 0), -2);
        C.due("17 k", x.ranked(0, 24), -3);
        C.due("17 k below", x.ranked(0, -1), -3);
        C.due("17 window first", x.ranked(-1, 24), -2);
    }

    private static void overall() {
        KeyPath x = new KeyPath();
        C.due("18 without notes", x.overall(5), 5);
        C.due("18 k", x.overall(24), -3);
        C.due("18 k below", x.overall(-1), -3);
        C.due("18 load", Player.load(x, CADENCE), 12);
        C.due("18 whole", x.overall(0), 0);
        KeyPath y = Player.playing("-:64-:64-:64-:64-:64-:64-:64 d4:1");
        C.due("18 beyond the windows", y.overall(0), 2);
        C.due("18 minor next", y.overall(1), 14);
    }

    private static void chord() {
        KeyPath x = blocks("(c4 e4 g4):16 -:16 (a4 c5 e5):16 (b4 d5 f5):16 (c4 e4 g#4):16 (f4 g4):8 e4:8");
        C.due("19 major", x.chord(0), 0);
        C.due("19 silent", x.chord(1), -1);
        C.due("19 minor", x.chord(2), 28);
        C.due("19 diminished", x.chord(3), 35);
        C.due("19 the first of like ones", x.chord(4), 0);
        C.due("19 the first again", x.chord(5), 0);
        C.due("19 window", x.chord(6), -2);
        C.due("19 window below", x.chord(-1), -2);
    }

    private static void distance() {
        KeyPath x = new KeyPath();
        int[] from = new int[24];
        for (int key = 0; key < 24; key++) {
            from[key] = x.distance(0, key);
        }
        C.row("20 from c", from, 0, 170, 80, 90, 130, 40, 180, 40, 130, 90, 80, 170,
                60, 160, 70, 150, 70, 100, 120, 100, 190, 30, 140, 110);
        C.due("20 back", x.distance(21, 0), 30);
        C.due("20 moved", x.distance(7, 14), x.distance(0, 19));
        C.due("20 key", x.distance(24, 0), -2);
        C.due("20 key below", x.distance(0, -1), -2);
        x.net(999, 999, 999, 100);
        C.due("20 dear", x.distance(0, 6), 100 * 999 * 4);
        x.net(999, 999, 999, 0);
        C.due("20 for nothing", x.distance(0, 6), 0);
    }

    private static int[] keysOnWay(KeyPath x, int from, int to) {
        int keys = 0;
        while (keys < 30 && x.way(from, to, keys) != -1) {
            keys++;
        }
        int[] way = new int[keys];
        for (int k = 0; k < keys; k++) {
            way[k] = x.way(from, to, k);
        }
        return way;
    }

    private static void way() {
        KeyPath x = new KeyPath();
        C.row("21 itself", keysOnWay(x, 3, 3), 3);
        C.row("21 two", keysOnWay(x, 0, 21), 0, 21);
        C.row("21 the first", keysOnWay(x, 0, 14), 0, 5, 14);
        C.row("21 far", keysOnWay(x, 3, 18), 3, 15, 6, 18);
        x.net(0, 0, 0, 1);
        C.row("21 fewest keys", keysOnWay(x, 0, 14), 0, 5, 14);
        C.row("21 for nothing", keysOnWay(x, 0, 12), 0, 12);
        x.net(1, 999, 999, 0);
        C.row("21 by sum, whatever FACTOR", keysOnWay(x, 0, 2), 0, 7, 2);
        C.row("21 half round", keysOnWay(x, 0, 6), 0, 5, 10, 3, 8, 1, 6);
        x.net(999, 1, 1, 1);
        C.row("21 by thirds", keysOnWay(x, 0, 6), 0, 12, 3, 15, 6);
        C.due("21 not so many", x.way(0, 6, 5), -1);
        C.due("21 far beyond", x.way(0, 6, MOST), -1);
        C.due("21 k", x.way(0, 6, -1), -3);
        C.due("21 key", x.way(24, 0, -1), -2);
        C.due("21 key below", x.way(0, -1, 0), -2);
    }

    private static void cost() {
        C.due("22 without windows", new KeyPath().cost(), 0);
        C.due("22 cadence", cadence().cost(), 160);
        C.due("22 no path", pathless().cost(), -5);
        KeyPath x = cadence();
        x.pin(1, 0);
        C.due("22 pinned", x.cost(), 5300 - 4700 + 80);
    }

    private static void key() {
        KeyPath x = cadence();
        int[] keys = {x.key(0), x.key(1), x.key(2), x.key(3)};
        C.row("23 cadence", keys, 0, 5, 7, 0);
        C.due("23 window", x.key(4), -2);
        C.due("23 window below", x.key(-1), -2);
        C.due("23 no path", pathless().key(0), -5);
        C.due("23 window first", pathless().key(9), -2);
        C.due("23 the first of like ones", blocks("c4:16").key(0), 0);
        KeyPath y = blocks("-:32 c4:16");
        C.due("23 silent at first", y.key(0), 0);
        KeyPath z = blocks("(c4 e4 g4):16 -:16 (d4 f#4 a4):16");
        C.due("23 silent keeps", z.key(1), z.key(0));
    }

    private static void ties() {
        C.due("24 without windows", new KeyPath().ties(), 1);
        C.due("24 two", blocks("c4:16").ties(), 2);
        C.due("24 no path", pathless().ties(), -5);
        KeyPath x = blocks("c4:16 c4:16 c4:16 c4:16");
        C.due("24 stays", x.ties(), 2);
        x.net(0, 0, 0, 0);
        C.due("24 each by itself", x.ties(), 16);
        KeyPath y = blocks("c4:64 c4:64 c4:64 c4:64 c4:48");
        y.net(0, 0, 0, 0);
        C.due("24 up to a million", y.ties(), 524288);
        Player.load(y, "c4:64 c4:64 c4:64 c4:64 c4:64");
        C.due("24 at most", y.ties(), 1000000);
        y.windows(8, 8);
        C.due("24 far more", y.ties(), 1000000);
    }

    private static void through() {
        KeyPath x = new KeyPath();
        x.windows(4, 16);
        Player.load(x, "c4:4 -:12 c4:4 -:20 c4:4");
        C.due("25 the last is silent", x.tones(2, -1), 0);
        C.due("25 the path", x.through(0, 0), 0);
        C.due("25 another", x.through(1, 5), 6300 - 5200 + 40);
        C.due("25 and kept", x.through(2, 5), 6300 - 5200 + 40);
        x.pin(1, 7);
        C.due("25 none such", x.through(1, 0), -1);
        C.due("25 kept from the pin", x.through(2, 0), -1);
        C.due("25 pinned", x.through(2, 7), x.cost());
        KeyPath y = blocks("-:16 c4:16");
        C.due("25 silent at first", y.through(0, 7), 40);
        C.due("25 behind it", y.through(1, 12), 0);
        C.due("25 window", x.through(3, 0), -2);
        C.due("25 key", x.through(0, 24), -2);
        C.due("25 key below", x.through(0, -1), -2);
        C.due("25 no path", pathless().through(0, 0), -5);
        C.due("25 key first", pathless().through(0, 24), -2);
    }

    private static void unsure() {
        KeyPath x = blocks("c4:16");
        C.due("26 like ones", x.unsure(0, 0), 2);
        C.due("26 just so", x.unsure(0, 900), 3);
        C.due("26 less", x.unsure(0, 899), 2);
        C.due("26 all", x.unsure(0, 9999), 24);
        C.due("26 d", x.unsure(0, 10000), -3);
        C.due("26 d below", x.unsure(0, -1), -3);
        C.due("26 window", x.unsure(1, -1), -2);
        C.due("26 no path", pathless().unsure(0, 0), -5);
        C.due("26 d first", pathless().unsure(0, -1), -3);
        x.pin(0, 3);
        C.due("26 pinned", x.unsure(0, 9999), 1);
    }

    private static void second() {
        C.due("27 without windows", new KeyPath().second(0), -1);
        C.due("27 no window", new KeyPath().second(1), -1);
        KeyPath x = blocks("c4:16 c4:16");
        C.due("27 as little", x.second(0), 0);
        C.due("27 at once", x.second(1), 0);
        x.pin(0, 0);
        C.due("27 a change", x.second(0), 60);
        C.due("27 at the second", x.second(1), 1);
        x.pin(1, 0);
        C.due("27 there is none", x.second(0), -1);
        C.due("27 nowhere", x.second(1), -1);
        C.due("27 what", x.second(2), -2);
        C.due("27 what below", x.second(-1), -2);
        C.due("27 no path", pathless().second(0), -5);
        C.due("27 what first", pathless().second(2), -2);
    }

    private static void within() {
        C.due("28 without windows", new KeyPath().within(0), 0);
        KeyPath x = cadence();
        C.due("28 none", x.within(0), 2034);
        C.due("28 three", x.within(3), 160);
        C.due("28 most", x.within(47), 160);
        C.due("28 n", x.within(48), -3);
        C.due("28 n below", x.within(-1), -3);
        x.pin(0, 1);
        x.pin(3, 2);
        C.due("28 there is none", x.within(0), -1);
        C.due("28 one is needed", x.within(1) > 0 ? 1 : 0, 1);
        C.due("28 no path", pathless().within(0), -5);
        C.due("28 n first", pathless().within(48), -3);
        KeyPath y = blocks("c4:16 c4:16 c4:16");
        y.pin(0, 0);
        y.pin(2, 7);
        C.due("28 one move", y.within(1), 6300 - 4100 + 40);
    }

    private static void lasting() {
        C.due("29 without windows", new KeyPath().lasting(16), 0);
        KeyPath x = cadence();
        C.due("29 one", x.lasting(1), 160);
        C.due("29 all", x.lasting(4), 2034);
        C.due("29 longer", x.lasting(5), -1);
        C.due("29 m", x.lasting(0), -3);
        C.due("29 m above", x.lasting(17), -3);
        C.due("29 no path", pathless().lasting(1), -5);
        C.due("29 m first", pathless().lasting(0), -3);
        KeyPath y = blocks("c4:16 c4:16 c4:16");
        y.pin(0, 0);
        y.pin(2, 7);
        C.due("29 two each can't be", y.lasting(2), -1);
        y.pin(2, 0);
        y.pin(1, 7);
        C.due("29 there is none", y.lasting(2), -1);
        KeyPath z = blocks("c4:16 c4:16 c4:16 c4:16");
        z.pin(0, 0);
        z.pin(3, 7);
        C.due("29 two and two", z.lasting(2), 2 * 2200 + 40);
    }

    private static void firm() {
        C.due("30 without windows", new KeyPath().firm(), 0);
        C.due("30 one window", blocks("c4:16").firm(), 0);
        KeyPath x = cadence();
        int firm = x.firm();
        C.due("30 nothing changed", x.cost(), 160);
        C.due("30 FACTOR stays", x.count(11), 1);
        x.net(40, 30, 60, firm);
        C.due("30 firm", x.segments(), 1);
        x.net(40, 30, 60, firm - 1);
        C.due("30 less is not", x.segments() > 1 ? 1 : 0, 1);
        C.due("30 FACTOR says nothing", x.firm(), firm);
        x.pin(0, 1);
        x.pin(1, 2);
        C.due("30 none", x.firm(), -1);
        C.due("30 no path", pathless().firm(), -5);
        KeyPath y = cadence();
        y.net(0, 0, 0, 1);
        C.due("30 moves for nothing", y.firm(), -1);
    }

    private static void segments() {
        C.due("31 without windows", new KeyPath().segments(), 0);
        C.due("31 cadence", cadence().segments(), 4);
        C.due("31 one", blocks("c4:16 -:16 c4:16").segments(), 1);
        C.due("31 no path", pathless().segments(), -5);
    }

    private static void segment() {
        KeyPath x = blocks("(c4 e4 g4):16 -:16 (c#4 f4 g#4):16 (c#4 f4 g#4):16");
        int[] got = new int[8];
        for (int i = 0; i < 8; i++) {
            got[i] = x.segment(i / 4, i % 4);
        }
        C.row("32 segments", got, 0, 1, 0, 0, 2, 3, 1, 32);
        C.due("32 segment", x.segment(2, 0), -2);
        C.due("32 segment below", x.segment(-1, 0), -2);
        C.due("32 what", x.segment(0, 4), -2);
        C.due("32 what below", x.segment(0, -1), -2);
        C.due("32 no path", pathless().segment(9, 9), -5);
    }

    private static void pivot() {
        KeyPath x = cadence();
        int[] got = {x.pivot(0, 0), x.pivot(0, 1), x.pivot(0, 2), x.pivot(0, 3)};
        C.row("33 pivot", got, 0, 1, 5, 16);
        C.due("33 there is none", x.pivot(1, 0), -1);
        C.due("33 none, its degree", x.pivot(1, 3), -1);
        C.due("33 no such move", x.pivot(3, 0), -2);
        C.due("33 below", x.pivot(-1, 0), -2);
        C.due("33 what", x.pivot(1, 4), -2);
        C.due("33 what below", x.pivot(0, -1), -2);
        C.due("33 no path", pathless().pivot(9, 9), -5);
        C.due("33 one segment", blocks("c4:16").pivot(0, 0), -2);
        KeyPath y = blocks("(a4 c5 e5):16 (c4 e4 g4):16");
        y.pin(0, 21);
        y.pin(1, 0);
        int[] also = {y.pivot(0, 0), y.pivot(0, 1), y.pivot(0, 2), y.pivot(0, 3)};
        C.row("33 the first of like ones", also, 0, 3, 1, 16);
        KeyPath z = blocks("(e4 g#4 b4):16 (e4 g#4 b4):16");
        z.pin(0, 21);
        z.pin(1, 4);
        int[] fifth = {z.pivot(0, 0), z.pivot(0, 1), z.pivot(0, 2), z.pivot(0, 3)};
        C.row("33 the other fifth of minor", fifth, 12, 5, 1, 32);
    }

    private static void roman() {
        KeyPath x = blocks("(c4 e4 g4):16 -:16 (g4 b4 d5):16 (c#4 f4 g#4):16");
        for (int window = 0; window < 4; window++) {
            x.pin(window, 0);
        }
        int[] got = {x.roman(0), x.roman(1), x.roman(2), x.roman(3)};
        C.row("34 roman", got, 1, -1, 5, -1);
        C.due("34 window", x.roman(4), -2);
        C.due("34 window below", x.roman(-1), -2);
        C.due("34 no path", pathless().roman(0), -5);
        C.due("34 window first", pathless().roman(5), -2);
    }

    private static void outside() {
        C.due("35 without windows", new KeyPath().outside(), 0);
        KeyPath x = blocks("(c4 e4 g4):16 -:16 (g4 b4 d5):16 (c#4 f4 g#4):16");
        for (int window = 0; window < 4; window++) {
            x.pin(window, 0);
        }
        C.due("35 one", x.outside(), 1);
        x.pin(3, 1);
        C.due("35 none", x.outside(), 0);
        C.due("35 no path", pathless().outside(), -5);
    }

    private static void progression() {
        KeyPath x = blocks("(c4 e4 g4):16 -:16 (c4 e4 g4):32 (g4 b4 d5):16 -:16 (c4 e4 g4):16");
        C.due("36 how many", x.progression(-1), 3);
        int[] got = {x.progression(0), x.progression(1), x.progression(2)};
        C.row("36 chords", got, 0, 21, 0);
        C.due("36 not so many", x.progression(3), -1);
        C.due("36 far", x.progression(MOST), -1);
        C.due("36 k", x.progression(-2), -3);
        C.due("36 least", x.progression(LEAST), -3);
        C.due("36 without windows", new KeyPath().progression(-1), 0);
        C.due("36 whatever the pins", pathless().progression(-1), 1);
    }

    private static void confirmed() {
        KeyPath x = cadence();
        C.due("37 it isn't", x.confirmed(3), -1);
        x.pin(1, 0);
        x.pin(2, 0);
        C.due("37 at the last", x.confirmed(0), 3);
        C.due("37 segment", x.confirmed(1), -2);
        C.due("37 segment below", x.confirmed(-1), -2);
        C.due("37 no path", pathless().confirmed(9), -5);
        KeyPath y = blocks("(g4 b4 d5):16 -:16 (c4 e4 g4):16 -:16 (c4 e4 g4):16");
        for (int window = 0; window < 5; window++) {
            y.pin(window, 0);
        }
        C.due("37 the first, over silence", y.confirmed(0), 2);
        y.pin(0, 7);
        y.pin(1, 7);
        C.due("37 the fifth is not in it", y.confirmed(1), -1);
        KeyPath w = blocks("(g4 b4 d5):16 (c4 e4 g4):16 (c4 e4 g4):16");
        w.pin(0, 0);
        w.pin(1, 7);
        w.pin(2, 0);
        C.due("37 the fifth is in an earlier one", w.confirmed(2), -1);
        KeyPath z = blocks("(e4 g#4 b4):16 (a4 c5 e5):16 (e4 g4 b4):16 (a4 c5 e5):16");
        for (int window = 0; window < 4; window++) {
            z.pin(window, 21);
        }
        C.due("37 minor", z.confirmed(0), 1);
        z.pin(0, 4);
        C.due("37 the minor fifth, too", z.confirmed(1), 3);
    }

    private static void learnt() {
        KeyPath x = cadence();
        for (int window = 0; window < 3; window++) {
            x.pin(window, 0);
        }
        C.due("38 first", x.learnt(0, 0), 25);
        C.due("38 downwards", x.learnt(0, 11), 8);
        C.due("38 no such", x.learnt(1, 0), -1);
        x.pin(3, 12);
        C.due("38 minor", x.learnt(1, 4), 33);
        C.due("38 its fifth", x.learnt(1, 7), 33);
        C.due("38 none of it", x.learnt(1, 3), 0);
        C.due("38 mode", x.learnt(2, 0), -2);
        C.due("38 mode below", x.learnt(-1, 0), -2);
        C.due("38 step", x.learnt(0, 12), -2);
        C.due("38 step below", x.learnt(0, -1), -2);
        C.due("38 no path", pathless().learnt(0, 0), -5);
        C.due("38 mode first", pathless().learnt(2, 0), -2);
        C.due("38 without windows", new KeyPath().learnt(0, 0), -1);
        KeyPath y = blocks("-:16 c4:16");
        y.pin(0, 0);
        y.pin(1, 12);
        C.due("38 all are silent", y.learnt(0, 0), -1);
        KeyPath z = blocks("(d4 f#4 a4):16");
        C.due("38 above the key", z.learnt(0, 4), 33);
    }

    private static void foreign() {
        KeyPath x = blocks("(c4 e!4 g4 b4):4 (b!4 a!4):3 -:9 d4:16");
        C.due("39 major", x.foreign(0, 0), 4 + 6);
        C.due("39 minor, its raised seventh", x.foreign(0, 12), 4);
        C.due("39 other", x.foreign(0, 1), 4 * 2 + 4 - 4);
        C.due("39 window", x.foreign(2, 0), -2);
        C.due("39 window below", x.foreign(-1, 0), -2);
        C.due("39 key", x.foreign(0, 24), -2);
        C.due("39 key below", x.foreign(0, -1), -2);
        C.due("39 none", x.foreign(1, 0), 0);
    }

    private static int closing(String text, int key) {
        KeyPath x = blocks(text);
        for (int window = 0; window < x.count(1); window++) {
            x.pin(window, key);
        }
        return x.close();
    }

    private static void close() {
        C.due("40 without windows", new KeyPath().close(), -1);
        C.due("40 cadence", cadence().close(), 2);
        C.due("40 no path", pathless().close(), -5);
        C.due("40 full", closing("(g4 b4 d5):16 (c4 e4 g4):16", 0), 2);
        C.due("40 full, over like ones", closing("(g4 b4 d5):16 -:16 (c4 e4 g4):16 -:16 (c4 e4 g4):16", 0), 2);
        C.due("40 half", closing("(c4 e4 g4):16 (g4 b4 d5):16", 0), 1);
        C.due("40 half alone", closing("(g4 b4 d5):16", 0), 1);
        C.due("40 first alone", closing("(c4 e4 g4):16", 0), 0);
        C.due("40 by the fourth", closing("(f4 a4 c5):16 (c4 e4 g4):16", 0), 0);
        C.due("40 elsewhere", closing("(g4 b4 d5):16 (f4 a4 c5):16", 0), 0);
        C.due("40 minor", closing("(e4 g4 b4):16 (a4 c5 e5):16", 21), 2);
        C.due("40 minor, other kind", closing("(e4 g#4 b4):16 (a4 c5 e5):16", 21), 2);
        C.due("40 minor half", closing("(e4 g#4 b4):16", 21), 1);
        C.due("40 minor half, other kind", closing("(e4 g4 b4):16", 21), 1);
        KeyPath x = blocks("(g4 b4 d5):16 (c4 e4 g4):16");
        x.pin(0, 7);
        x.pin(1, 0);
        C.due("40 by the last one's key", x.close(), 2);
    }

    private static void degree() {
        KeyPath x = new KeyPath();
        int[] major = new int[7];
        int[] triads = {0, 7, 13, 15, 21, 28, 35};
        for (int i = 0; i < 7; i++) {
            major[i] = x.degree(triads[i], 0);
        }
        C.row("41 major", major, 1, 2, 3, 4, 5, 6, 7);
        int[] minor = new int[8];
        int[] others = {28, 35, 0, 7, 13, 15, 21, 12};
        for (int i = 0; i < 8; i++) {
            minor[i] = x.degree(others[i], 21);
        }
        C.row("41 minor", minor, 1, 2, 3, 4, 5, 6, 7, 5);
        C.due("41 of another kind", x.degree(1, 0), -1);
        C.due("41 major has but one fifth", x.degree(22, 0), -1);
        C.due("41 on another tone", x.degree(3, 0), -1);
        C.due("41 triad", x.degree(36, 0), -2);
        C.due("41 triad below", x.degree(-1, 0), -2);
        C.due("41 key", x.degree(0, 24), -2);
        C.due("41 key below", x.degree(0, -1), -2);
        int found = 0;
        for (int triad = 0; triad < 36; triad++) {
            for (int key = 0; key < 24; key++) {
                found += x.degree(triad, key) > 0 ? 1 : 0;
            }
        }
        C.due("41 how many", found, 12 * 7 + 12 * 8);
    }

    private static void name() {
        KeyPath x = new KeyPath();
        String[] names = {"c", "c#", "d", "d#", "e", "f", "f#", "g", "g#", "a", "a#", "b"};
        for (int key = 0; key < 24; key++) {
            byte[] due = (names[key % 12] + (key < 12 ? "" : "m")).getBytes(StandardCharsets.US_ASCII);
            for (int i = 0; i < 5; i++) {
                C.due("42 name of " + key, x.name(key, i), i < due.length ? due[i] : -1);
            }
        }
        C.due("42 far", x.name(0, MOST), -1);
        C.due("42 key", x.name(24, -1), -2);
        C.due("42 key below", x.name(-1, 0), -2);
        C.due("42 i", x.name(0, -1), -3);
    }

    private static void count() {
        KeyPath x = new KeyPath();
        int[] first = new int[14];
        for (int what = -1; what < 13; what++) {
            first[what + 1] = x.count(what);
        }
        C.row("43 new", first, -1, 0, 0, 0, 0, 0, 16, 8, 0, 40, 30, 60, 1, -1);
        Player.load(x, "c4:16 -:24 d4:5");
        x.feed(0, 0, 0, 0, 0);
        x.shift(1);
        x.windows(8, 12);
        x.net(5, 6, 7, 8);
        int[] then = new int[12];
        for (int what = 0; what < 12; what++) {
            then[what] = x.count(what);
        }
        C.row("43 then", then, 2, 4, 45, 1, 20, 8, 12, 1, 5, 6, 7, 8);
        C.due("43 others", x.count(LEAST), -1);
    }
}
