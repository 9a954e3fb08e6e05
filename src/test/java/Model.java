import java.util.ArrayList;
import java.util.Arrays;
import java.util.Comparator;
import java.util.List;
import java.util.TreeSet;

/** The document once more, in its plainest form and by other ways than the class: lists, copies, enumeration. */
final class Model {
    static final int NONE = -1;
    static final long FAR = Long.MAX_VALUE / 4;

    private List<Integer> tape = new ArrayList<>();
    private List<int[]> notes = new ArrayList<>();
    private final List<List<int[]>> before = new ArrayList<>();
    private int fault = 0;
    private int place = NONE;
    private int wide = 16;
    private int hop = 8;
    private final int[][] weights = {
        {63, 22, 35, 23, 44, 41, 25, 52, 24, 37, 23, 29},
        {63, 27, 35, 54, 26, 35, 25, 48, 40, 27, 33, 32}};
    private int fifth = 40;
    private int relative = 30;
    private int parallel = 60;
    private int factor = 1;
    private final int[] pins = new int[48];

    // What the path is asked for is kept till something changes.
    private boolean known;
    private int[][] tone;
    private boolean[] keeps;
    private int[][] own;
    private long[][] net;
    private int[] path;
    private boolean solved;
    private List<int[]> all;
    private boolean listed;

    Model() {
        Arrays.fill(pins, NONE);
    }

    int call(String name, int... a) {
        switch (name) {
            case "feed": return feed(a);
            case "load": return load(a[0]);
            case "fault": return a[0] == 0 ? fault : a[0] == 1 ? place : NONE;
            case "put": return put(a[0], a[1], a[2]);
            case "drop": return drop(a[0]);
            case "shift": return shift(a[0]);
            case "undo": return undo();
            case "note": return note(a[0], a[1]);
            case "windows": return windows(a[0], a[1]);
            case "weight": return weight(a[0], a[1], a[2]);
            case "net": return net(a[0], a[1], a[2], a[3]);
            case "pin": return pin(a[0], a[1]);
            case "distance": return !key(a[0]) || !key(a[1]) ? -2 : (int) (least(a[0], a[1]) * factor);
            case "way": return way(a[0], a[1], a[2]);
            case "degree": return a[0] < 0 || a[0] > 35 || !key(a[1]) ? -2 : degree(a[0], a[1]);
            case "name": return name(a[0], a[1]);
            case "count": return count(a[0]);
            default: return asked(name, a);
        }
    }

    private int asked(String name, int[] a) {
        look();
        switch (name) {
            case "tones": return !window(a[0]) ? -2 : a[1] == NONE ? sum(tone[a[0]])
                    : a[1] < 0 || a[1] > 11 ? -3 : tone[a[0]][a[1]];
            case "match": return match(a[0], a[1], a[2]);
            case "fit": return !window(a[0]) || !key(a[1]) ? -2 : fit(tone[a[0]], a[1]);
            case "ranked": return !window(a[0]) ? -2 : !key(a[1]) ? -3 : ranked(tone[a[0]], a[1]);
            case "overall": return !key(a[0]) ? -3 : ranked(span(0, end()), a[0]);
            case "chord": return !window(a[0]) ? -2 : chord(a[0]);
            case "progression": return progression(a[0]);
            case "foreign": return !window(a[0]) || !key(a[1]) ? -2 : foreign(a[0], a[1]);
            case "key": case "roman": if (!window(a[0])) return -2; break;
            case "through": if (!window(a[0]) || !key(a[1])) return -2; break;
            case "unsure": if (!window(a[0])) return -2; if (a[1] < 0 || a[1] > 9999) return -3; break;
            case "second": if (a[0] != 0 && a[0] != 1) return -2; break;
            case "within": if (a[0] < 0 || a[0] > 47) return -3; break;
            case "lasting": if (a[0] < 1 || a[0] > 16) return -3; break;
            case "learnt": if (a[0] < 0 || a[0] > 1 || a[1] < 0 || a[1] > 11) return -2; break;
            default: break;
        }
        if (!solved) {
            path = leastPath(factor, NONE, NONE);
            solved = true;
        }
        return path == null ? -5 : ofPath(name, a);
    }

    private int ofPath(String name, int[] a) {
        switch (name) {
            case "cost": return told(costOf(path, factor));
            case "key": return path[a[0]];
            case "ties": return ties();
            case "through": return told(through(a[0], a[1]));
            case "unsure": return unsure(a[0], a[1]);
            case "second": return second(a[0]);
            case "within": return told(within(a[0]));
            case "lasting": return told(lasting(a[0]));
            case "firm": return firm();
            case "segments": return starts().size();
            case "segment": return segment(a[0], a[1]);
            case "pivot": return pivot(a[0], a[1]);
            case "roman": return roman(a[0]);
            case "outside": return outside();
            case "confirmed": return confirmed(a[0]);
            case "learnt": return learnt(a[0], a[1]);
            case "close": return close();
            default: throw new IllegalArgumentException(name);
        }
    }

    // ---- the tape and the text

    private int feed(int[] a) {
        if (tape.size() + 20 > 700) {
            return -4;
        }
        for (int four : a) {
            for (int i = 3; i >= 0; i--) {
                tape.add(four >> 8 * i & 255);
            }
        }
        return tape.size();
    }

    private int load(int n) {
        if (n < 0 || n > tape.size()) {
            return -3;
        }
        StringBuilder text = new StringBuilder();
        for (int i = 0; i < n; i++) {
            text.append((char) (int) tape.get(i));
        }
        tape = new ArrayList<>();
        List<int[]> read = new ArrayList<>();
        int[] trouble = readText(text.toString(), read);
        fault = trouble[0];
        place = trouble[1];
        if (fault != 0) {
            return -30 - fault;
        }
        read.sort(ORDER);
        notes = read;
        before.clear();
        known = false;
        return notes.size();
    }

    private static final Comparator<int[]> ORDER = Comparator.<int[]>comparingInt(n -> n[0])
            .thenComparingInt(n -> n[2]).thenComparingInt(n -> n[1]);

    /** Tokens first, then a machine of states over them; all faults are gathered, the first one counts. */
    private static int[] readText(String text, List<int[]> read) {
        List<int[]> faults = new ArrayList<>();
        // States: 0 between parts, 1 behind a letter, 2 behind its sign, 3 wants colon, 4 wants N,
        // 5 in a chord without names, 6 in a chord with some.
        int state = 0;
        int tick = 0;
        int letterAt = 0;
        int pitch = 0;
        boolean inChord = false;
        List<Integer> names = new ArrayList<>();
        int at = 0;
        while (at < text.length() && faults.isEmpty()) {
            char c = text.charAt(at);
            if (c == ' ') {
                at++;
                continue;
            }
            boolean letter = "abcdefg".indexOf(c) >= 0;
            boolean digit = "0123456789".indexOf(c) >= 0;
            if (letter && (state == 0 || state == 5 || state == 6)) {
                if (state == 0) {
                    names.clear();
                    inChord = false;
                }
                if (read.size() + names.size() >= 100 || names.size() == 6) {
                    faults.add(new int[] {3, at});
                }
                letterAt = at;
                pitch = new int[] {9, 11, 0, 2, 4, 5, 7}["abcdefg".indexOf(c)];
                state = 1;
            } else if (state == 0 && c == '|') {
                state = 0;
            } else if (state == 0 && c == '-') {
                names.clear();
                state = 3;
            } else if (state == 0 && c == '(') {
                names.clear();
                inChord = true;
                state = 5;
            } else if (state == 1 && (c == '#' || c == '!')) {
                pitch += c == '#' ? 1 : -1;
                state = 2;
            } else if ((state == 1 || state == 2) && digit) {
                pitch += 12 * (c - '0' + 1);
                if (pitch < 0 || pitch > 127 || names.contains(pitch)) {
                    faults.add(new int[] {3, letterAt});
                }
                names.add(pitch);
                state = inChord ? 6 : 3;
            } else if (state == 6 && c == ')') {
                state = 3;
            } else if (state == 3 && c == ':') {
                state = 4;
            } else if (state == 4 && digit) {
                int stop = at;
                while (stop < text.length() && "0123456789".indexOf(text.charAt(stop)) >= 0) {
                    stop++;
                }
                int n = stop - at > 2 ? 0 : Integer.parseInt(text.substring(at, stop));
                if (n < 1 || n > 64) {
                    faults.add(new int[] {2, at});
                } else if (tick + n > 512) {
                    faults.add(new int[] {4, at});
                }
                for (int name : names) {
                    read.add(new int[] {tick, n, name});
                }
                tick += n;
                at = stop - 1;
                state = 0;
                inChord = false;
            } else {
                faults.add(new int[] {1, at});
            }
            at++;
        }
        if (faults.isEmpty() && state != 0) {
            faults.add(new int[] {1, text.length()});
        }
        return faults.isEmpty() ? new int[] {0, NONE} : faults.get(0);
    }

    // ---- notes

    private void act() {
        List<int[]> copy = new ArrayList<>();
        for (int[] n : notes) {
            copy.add(n.clone());
        }
        before.add(copy);
        if (before.size() > 10) {
            before.remove(0);
        }
        known = false;
    }

    private int put(int tick, int length, int pitch) {
        if (tick < 0 || tick > 511 || length < 1 || length > 64 || pitch < 0 || pitch > 127 || tick + length > 512) {
            return -3;
        }
        if (notes.size() == 100) {
            return -4;
        }
        act();
        int[] n = {tick, length, pitch};
        notes.add(n);
        notes.sort(ORDER);
        for (int i = 0; i < notes.size(); i++) {
            if (notes.get(i) == n) {
                return i;
            }
        }
        throw new IllegalStateException();
    }

    private int drop(int note) {
        if (note < 0 || note >= notes.size()) {
            return -2;
        }
        act();
        notes.remove(note);
        return notes.size();
    }

    private int shift(int by) {
        if (by < -127 || by > 127) {
            return -3;
        }
        for (int[] n : notes) {
            if (n[2] + by < 0 || n[2] + by > 127) {
                return -3;
            }
        }
        act();
        for (int[] n : notes) {
            n[2] += by;
        }
        return notes.size();
    }

    private int undo() {
        if (before.isEmpty()) {
            return -5;
        }
        notes = before.remove(before.size() - 1);
        known = false;
        return before.size();
    }

    private int note(int note, int what) {
        if (note < 0 || note >= notes.size() || what < 0 || what > 3) {
            return -2;
        }
        return what == 3 ? notes.get(note)[2] % 12 : notes.get(note)[what];
    }

    private int end() {
        return notes.stream().mapToInt(n -> n[0] + n[1]).max().orElse(0);
    }

    // ---- terms

    private static int begins(int end, int hop) {
        int number = 0;
        for (int tick = 0; tick < end; tick += hop) {
            number++;
        }
        return number;
    }

    private int windows(int w, int h) {
        if (w < 4 || w > 128 || h < 4 || h > 128) {
            return -3;
        }
        if (begins(end(), h) > 48) {
            return -4;
        }
        wide = w;
        hop = h;
        known = false;
        look();
        return tone.length;
    }

    private int weight(int mode, int step, int weight) {
        if (mode < 0 || mode > 1 || step < 0 || step > 11) {
            return -2;
        }
        if (weight < 0 || weight > 99) {
            return -3;
        }
        int was = weights[mode][step];
        weights[mode][step] = weight;
        known = false;
        return was;
    }

    private int net(int f, int r, int p, int times) {
        for (int price : new int[] {f, r, p}) {
            if (price < 0 || price > 999) {
                return -3;
            }
        }
        if (times < 0 || times > 100) {
            return -3;
        }
        int was = factor;
        fifth = f;
        relative = r;
        parallel = p;
        factor = times;
        known = false;
        net = null;
        return was;
    }

    private int pin(int window, int to) {
        if (window < 0 || window > 47 || (to != NONE && !key(to))) {
            return -2;
        }
        int was = pins[window];
        pins[window] = to;
        known = false;
        return was;
    }

    // ---- windows

    private static boolean key(int key) {
        return key >= 0 && key <= 23;
    }

    private boolean window(int window) {
        return window >= 0 && window < tone.length;
    }

    private int[] span(int from, int to) {
        int[] counts = new int[12];
        for (int[] n : notes) {
            for (int tick = n[0]; tick < n[0] + n[1]; tick++) {
                if (tick >= from && tick < to) {
                    counts[n[2] % 12]++;
                }
            }
        }
        return counts;
    }

    private void look() {
        if (known) {
            return;
        }
        tone = new int[Math.min(48, begins(end(), hop))][];
        for (int w = 0; w < tone.length; w++) {
            tone[w] = span(w * hop, w * hop + wide);
        }
        own = new int[tone.length][24];
        keeps = new boolean[tone.length];
        for (int w = 0; w < tone.length; w++) {
            keeps[w] = w > 0 && sum(tone[w]) == 0;
            for (int k = 0; k < 24; k++) {
                own[w][k] = best(tone[w]) - fit(tone[w], k);
            }
        }
        all = null;
        listed = false;
        path = null;
        solved = false;
        known = true;
    }

    private static int sum(int[] counts) {
        return Arrays.stream(counts).sum();
    }

    private int weighed(int[] counts, int key) {
        int sum = 0;
        for (int t = 0; t < 12; t++) {
            sum += counts[t] * weights[key / 12][Math.floorMod(t - key, 12)];
        }
        return sum;
    }

    private int match(int window, int key, int what) {
        if (!window(window) || !key(key) || what < 0 || what > 1) {
            return -2;
        }
        int upper = weighed(tone[window], key);
        int lower = sum(tone[window]);
        if (upper == 0) {
            return what;
        }
        int common = java.math.BigInteger.valueOf(upper).gcd(java.math.BigInteger.valueOf(lower)).intValue();
        return what == 0 ? upper / common : lower / common;
    }

    private int fit(int[] counts, int key) {
        return sum(counts) == 0 ? 0 : Math.floorDiv(100 * weighed(counts, key), sum(counts));
    }

    private int best(int[] counts) {
        int best = 0;
        for (int k = 0; k < 24; k++) {
            best = Math.max(best, fit(counts, k));
        }
        return best;
    }

    private int ranked(int[] counts, int rank) {
        List<Integer> keys = new ArrayList<>();
        for (int k = 0; k < 24; k++) {
            keys.add(k);
        }
        keys.sort(Comparator.<Integer>comparingInt(k -> -fit(counts, k)).thenComparingInt(k -> k));
        return keys.get(rank);
    }

    private static int[] triadTones(int triad) {
        int root = triad / 3;
        int[][] above = {{4, 7}, {3, 7}, {3, 6}};
        return new int[] {root, (root + above[triad % 3][0]) % 12, (root + above[triad % 3][1]) % 12};
    }

    private int chord(int window) {
        int[] counts = tone[window];
        if (sum(counts) == 0) {
            return NONE;
        }
        int best = NONE;
        int most = Integer.MIN_VALUE;
        for (int triad = 0; triad < 36; triad++) {
            int score = 0;
            int[] own = triadTones(triad);
            for (int t = 0; t < 12; t++) {
                boolean in = t == own[0] || t == own[1] || t == own[2];
                score += in ? counts[t] : -counts[t];
            }
            if (score > most) {
                most = score;
                best = triad;
            }
        }
        return best;
    }

    private int progression(int k) {
        if (k < -1) {
            return -3;
        }
        List<Integer> told = new ArrayList<>();
        for (int w = 0; w < tone.length; w++) {
            int c = chord(w);
            if (c != NONE && (told.isEmpty() || told.get(told.size() - 1) != c)) {
                told.add(c);
            }
        }
        return k == NONE ? told.size() : k < told.size() ? told.get(k) : NONE;
    }

    private int foreign(int window, int key) {
        TreeSet<Integer> at = new TreeSet<>();
        for (int step : STEPS[key / 12]) {
            at.add((key + step) % 12);
        }
        int sum = 0;
        for (int t = 0; t < 12; t++) {
            sum += at.contains(t) ? 0 : tone[window][t];
        }
        return sum;
    }

    private static final int[][] STEPS = {{0, 2, 4, 5, 7, 9, 11}, {0, 2, 3, 5, 7, 8, 10}};
    private static final int[][] KINDS = {{0, 1, 1, 0, 0, 1, 2}, {1, 2, 0, 1, 1, 0, 0}};

    private static int degree(int triad, int key) {
        for (int i = 0; i < 7; i++) {
            int root = (key + STEPS[key / 12][i]) % 12;
            if (triad == 3 * root + KINDS[key / 12][i] || (key >= 12 && i == 4 && triad == 3 * root)) {
                return i + 1;
            }
        }
        return NONE;
    }

    private static int name(int key, int i) {
        if (!key(key)) {
            return -2;
        }
        if (i < 0) {
            return -3;
        }
        String name = "c c# d d# e f f# g g# a a# b".split(" ")[key % 12] + (key > 11 ? "m" : "");
        return i < name.length() ? name.charAt(i) : NONE;
    }

    private int count(int what) {
        look();
        int silent = 0;
        for (int[] counts : tone) {
            silent += sum(counts) == 0 ? 1 : 0;
        }
        int[] told = {notes.size(), tone.length, end(), before.size(), tape.size(), wide, hop, silent,
            fifth, relative, parallel, factor};
        return what >= 0 && what < told.length ? told[what] : NONE;
    }

    // ---- the net

    private int price(int from, int to) {
        boolean sameMode = from / 12 == to / 12;
        int up = Math.floorMod(to - from, 12);
        if (sameMode) {
            return up == 7 || up == 5 ? fifth : NONE;
        }
        if (up == 0) {
            return parallel;
        }
        return up == (from < 12 ? 9 : 3) ? relative : NONE;
    }

    private long least(int from, int to) {
        if (net == null) {
            net = new long[24][24];
            for (int a = 0; a < 24; a++) {
                for (int b = 0; b < 24; b++) {
                    net[a][b] = a == b ? 0 : price(a, b) == NONE ? FAR : price(a, b);
                }
            }
            for (int m = 0; m < 24; m++) {
                for (int a = 0; a < 24; a++) {
                    for (int b = 0; b < 24; b++) {
                        net[a][b] = Math.min(net[a][b], net[a][m] + net[m][b]);
                    }
                }
            }
        }
        return net[from][to];
    }

    private int way(int from, int to, int k) {
        if (!key(from) || !key(to)) {
            return -2;
        }
        if (k < 0) {
            return -3;
        }
        for (int keys = 1; keys <= 24; keys++) {
            int[] way = new int[keys];
            way[0] = from;
            if (findWay(way, 1, to, least(from, to))) {
                return k < keys ? way[k] : NONE;
            }
        }
        throw new IllegalStateException();
    }

    /** Depth first, the least KEYS first, with just so many KEYS and just so much to spend. */
    private boolean findWay(int[] way, int at, int to, long left) {
        int here = way[at - 1];
        if (at == way.length) {
            return here == to && left == 0;
        }
        for (int next = 0; next < 24; next++) {
            int price = price(here, next);
            if (price != NONE && price + least(next, to) <= left) {
                way[at] = next;
                if (findWay(way, at + 1, to, left - price)) {
                    return true;
                }
            }
        }
        return false;
    }

    // ---- paths

    private static int told(long cost) {
        return cost >= FAR ? NONE : (int) cost;
    }

    private long costOf(int[] keys, int times) {
        long cost = 0;
        for (int w = 0; w < keys.length; w++) {
            cost += own[w][keys[w]];
            cost += w > 0 ? times * least(keys[w - 1], keys[w]) : 0;
        }
        return cost;
    }

    private List<int[]> all() {
        if (!listed) {
            all = enumerated();
            listed = true;
        }
        return all;
    }

    /** All paths there are, if they are few; null if not. */
    private List<int[]> enumerated() {
        long number = 1;
        for (int w = 0; w < tone.length && number <= 30000; w++) {
            number *= keeps[w] || pins[w] != NONE ? 1 : 24;
        }
        if (number > 30000) {
            return null;
        }
        List<int[]> paths = new ArrayList<>();
        extend(paths, new int[tone.length], 0);
        return paths;
    }

    private void extend(List<int[]> paths, int[] keys, int w) {
        if (w == keys.length) {
            paths.add(keys.clone());
            return;
        }
        for (int k = 0; k < 24; k++) {
            if ((pins[w] == NONE || pins[w] == k) && (!keeps[w] || keys[w - 1] == k)) {
                keys[w] = k;
                extend(paths, keys, w + 1);
            }
        }
    }

    private static int moves(int[] keys) {
        int moves = 0;
        for (int w = 1; w < keys.length; w++) {
            moves += keys[w] != keys[w - 1] ? 1 : 0;
        }
        return moves;
    }

    private static int shortest(int[] keys) {
        int shortest = 99;
        int run = 0;
        for (int w = 0; w < keys.length; w++) {
            run++;
            if (w == keys.length - 1 || keys[w] != keys[w + 1]) {
                shortest = Math.min(shortest, run);
                run = 0;
            }
        }
        return shortest;
    }

    /** Forward, with whole paths kept for each last KEY; one WINDOW may be held to a KEY. */
    private int[] leastPath(int times, int heldWindow, int heldKey) {
        int[][] paths = {new int[0]};
        long[] costs = {0};
        for (int w = 0; w < tone.length; w++) {
            int[][] nextPaths = new int[24][];
            long[] nextCosts = new long[24];
            Arrays.fill(nextCosts, FAR);
            for (int k = 0; k < 24; k++) {
                if ((pins[w] != NONE && pins[w] != k) || (w == heldWindow && k != heldKey)) {
                    continue;
                }
                for (int p = 0; p < paths.length; p++) {
                    if (paths[p] == null || (keeps[w] && p != k)) {
                        continue;
                    }
                    long cost = costs[p] + own[w][k] + (w > 0 ? times * least(p, k) : 0);
                    if (cost < nextCosts[k]
                            || (cost == nextCosts[k] && Arrays.compare(paths[p], prefix(nextPaths[k])) < 0)) {
                        nextCosts[k] = cost;
                        nextPaths[k] = Arrays.copyOf(paths[p], w + 1);
                        nextPaths[k][w] = k;
                    }
                }
            }
            paths = nextPaths;
            costs = nextCosts;
        }
        int[] found = null;
        long least = FAR;
        for (int p = 0; p < paths.length; p++) {
            if (paths[p] != null && (costs[p] < least || (costs[p] == least && Arrays.compare(paths[p], found) < 0))) {
                least = costs[p];
                found = paths[p];
            }
        }
        return found;
    }

    private static int[] prefix(int[] keys) {
        return Arrays.copyOf(keys, keys.length - 1);
    }

    private int ties() {
        long least = costOf(path, factor);
        if (all() != null) {
            return (int) all.stream().filter(p -> costOf(p, factor) == least).count();
        }
        return least > 3000 ? countLeast() : countUpTo(least);
    }

    /** For each last KEY its least cost and how many have it. */
    private int countLeast() {
        long[] costs = new long[24];
        double[] number = new double[24];
        number[0] = 1;
        for (int w = 0; w < tone.length; w++) {
            long[] nextCosts = new long[24];
            double[] next = new double[24];
            Arrays.fill(nextCosts, FAR);
            for (int k = 0; k < 24; k++) {
                for (int p = 0; p < 24; p++) {
                    if (number[p] == 0 || (pins[w] != NONE && pins[w] != k) || (keeps[w] && p != k)) {
                        continue;
                    }
                    long cost = costs[p] + own[w][k] + (w > 0 ? factor * least(p, k) : 0);
                    if (cost < nextCosts[k]) {
                        nextCosts[k] = cost;
                        next[k] = 0;
                    }
                    next[k] += cost == nextCosts[k] ? number[p] : 0;
                }
            }
            costs = nextCosts;
            number = next;
        }
        long least = Arrays.stream(costs).min().getAsLong();
        double sum = 0;
        for (int k = 0; k < 24; k++) {
            sum += costs[k] == least ? number[k] : 0;
        }
        return (int) Math.min(1000000, sum);
    }

    /** For each last KEY and each cost how many prefixes; as doubles, which do not wrap. */
    private int countUpTo(long least) {
        double[][] number = new double[24][(int) least + 1];
        for (int w = 0; w < tone.length; w++) {
            double[][] next = new double[24][(int) least + 1];
            for (int k = 0; k < 24; k++) {
                if (pins[w] != NONE && pins[w] != k) {
                    continue;
                }
                int alone = own[w][k];
                if (w == 0) {
                    if (alone <= least) {
                        next[k][alone] = 1;
                    }
                    continue;
                }
                for (int p = 0; p < 24; p++) {
                    long more = alone + factor * least(p, k);
                    for (int c = 0; (!keeps[w] || p == k) && c + more <= least; c++) {
                        next[k][(int) (c + more)] += number[p][c];
                    }
                }
            }
            number = next;
        }
        double sum = 0;
        for (int k = 0; k < 24; k++) {
            sum += number[k][(int) least];
        }
        return (int) Math.min(1000000, sum);
    }

    private long through(int window, int key) {
        if (all() != null) {
            return all.stream().filter(p -> p[window] == key).mapToLong(p -> costOf(p, factor)).min().orElse(FAR);
        }
        return leastCost(window, key);
    }

    /** As leastPath, without the path: for questions that ask it often. */
    private long leastCost(int heldWindow, int heldKey) {
        long[] costs = new long[24];
        for (int w = 0; w < tone.length; w++) {
            long[] next = new long[24];
            Arrays.fill(next, FAR);
            for (int k = 0; k < 24; k++) {
                if ((pins[w] != NONE && pins[w] != k) || (w == heldWindow && k != heldKey)) {
                    continue;
                }
                for (int p = 0; p < 24; p++) {
                    if (costs[p] < FAR && (!keeps[w] || p == k)) {
                        next[k] = Math.min(next[k], costs[p] + own[w][k] + (w > 0 ? factor * least(p, k) : 0));
                    }
                }
            }
            costs = next;
        }
        return Arrays.stream(costs).min().getAsLong();
    }

    private int unsure(int window, int d) {
        int number = 0;
        for (int k = 0; k < 24; k++) {
            number += through(window, k) <= costOf(path, factor) + d ? 1 : 0;
        }
        return number;
    }

    private int second(int what) {
        long least = FAR;
        int first = NONE;
        if (all() != null) {
            for (int[] p : all) {
                if (!Arrays.equals(p, path)) {
                    least = Math.min(least, costOf(p, factor));
                }
            }
            for (int[] p : all) {
                if (!Arrays.equals(p, path) && costOf(p, factor) == least) {
                    int differs = Arrays.mismatch(p, path);
                    first = first == NONE ? differs : Math.min(first, differs);
                }
            }
        } else {
            for (int w = 0; w < tone.length; w++) {
                for (int k = 0; k < 24; k++) {
                    long cost = k == path[w] ? FAR : through(w, k);
                    if (cost < least) {
                        least = cost;
                        first = w;
                    }
                }
            }
        }
        return what == 0 ? told(least) : first;
    }

    private long within(int n) {
        if (all() != null) {
            return all.stream().filter(p -> moves(p) <= n).mapToLong(p -> costOf(p, factor)).min().orElse(FAR);
        }
        return byRuns(n, 1);
    }

    private long lasting(int m) {
        if (all() != null) {
            return all.stream().filter(p -> shortest(p) >= m).mapToLong(p -> costOf(p, factor)).min().orElse(FAR);
        }
        return byRuns(tone.length, m);
    }

    /** Whole segments at a time: the least cost up to a WINDOW, by the last KEY and the number of MOVES. */
    private long byRuns(int mostMoves, int shortestRun) {
        int size = tone.length;
        int layers = Math.min(mostMoves, size - 1) + 1;
        long[][][] cost = new long[layers][size + 1][24];
        for (long[][] layer : cost) {
            for (long[] row : layer) {
                Arrays.fill(row, FAR);
            }
        }
        for (int moves = 0; moves < layers; moves++) {
            for (int from = 0; from < size; from++) {
                if ((moves == 0) != (from == 0) || (from > 0 && keeps[from])) {
                    continue;
                }
                for (int k = 0; k < 24; k++) {
                    long run = 0;
                    for (int p = 0; p < 24 && from > 0; p++) {
                        long entered = p == k ? FAR : cost[moves - 1][from][p] + factor * least(p, k);
                        run = p == 0 ? entered : Math.min(run, entered);
                    }
                    for (int to = from + 1; to <= size && run < FAR; to++) {
                        if (pins[to - 1] != NONE && pins[to - 1] != k) {
                            break;
                        }
                        run += own[to - 1][k];
                        if (to - from >= shortestRun) {
                            cost[moves][to][k] = Math.min(cost[moves][to][k], run);
                        }
                    }
                }
            }
        }
        long least = FAR;
        for (long[][] layer : cost) {
            for (long c : layer[size]) {
                least = Math.min(least, c);
            }
        }
        return least;
    }

    private int firm() {
        for (int times = 0; times <= 100; times++) {
            if (moves(leastPath(times, NONE, NONE)) == 0) {
                return times;
            }
        }
        return NONE;
    }

    // ---- segments and chords along the path

    private List<Integer> starts() {
        List<Integer> starts = new ArrayList<>();
        for (int w = 0; w < path.length; w++) {
            if (w == 0 || path[w] != path[w - 1]) {
                starts.add(w);
            }
        }
        return starts;
    }

    private int last(int segment) {
        return segment + 1 < starts().size() ? starts().get(segment + 1) - 1 : path.length - 1;
    }

    private int segment(int segment, int what) {
        if (segment < 0 || segment >= starts().size() || what < 0 || what > 3) {
            return -2;
        }
        int first = starts().get(segment);
        return new int[] {first, last(segment), path[first], first * hop}[what];
    }

    private int pivot(int segment, int what) {
        if (segment < 0 || segment >= starts().size() - 1 || what < 0 || what > 3) {
            return -2;
        }
        int j = last(segment);
        int found = NONE;
        int most = 0;
        for (int triad = 0; triad < 36; triad++) {
            int sound = Integer.MAX_VALUE;
            for (int t : triadTones(triad)) {
                sound = Math.min(sound, tone[j][t] + tone[j + 1][t]);
            }
            if (degree(triad, path[j]) != NONE && degree(triad, path[j + 1]) != NONE && sound > most) {
                most = sound;
                found = triad;
            }
        }
        if (found == NONE) {
            return NONE;
        }
        return new int[] {found, degree(found, path[j]), degree(found, path[j + 1]), most}[what];
    }

    private int roman(int window) {
        return chord(window) == NONE ? NONE : degree(chord(window), path[window]);
    }

    private int outside() {
        int number = 0;
        for (int w = 0; w < tone.length; w++) {
            number += sum(tone[w]) > 0 && roman(w) == NONE ? 1 : 0;
        }
        return number;
    }

    private int other(int window, int first) {
        for (int w = window - 1; w >= first; w--) {
            if (chord(w) != NONE && chord(w) != chord(window)) {
                return w;
            }
        }
        return NONE;
    }

    private int confirmed(int segment) {
        if (segment < 0 || segment >= starts().size()) {
            return -2;
        }
        for (int w = starts().get(segment); w <= last(segment); w++) {
            int other = other(w, starts().get(segment));
            if (roman(w) == 1 && other != NONE && roman(other) == 5) {
                return w;
            }
        }
        return NONE;
    }

    private int learnt(int mode, int step) {
        int part = 0;
        int whole = 0;
        for (int w = 0; w < tone.length; w++) {
            if (path[w] / 12 == mode) {
                part += tone[w][(path[w] + step) % 12];
                whole += sum(tone[w]);
            }
        }
        return whole == 0 ? NONE : 100 * part / whole;
    }

    private int close() {
        for (int w = tone.length - 1; w >= 0; w--) {
            if (chord(w) == NONE) {
                continue;
            }
            int other = other(w, 0);
            boolean full = roman(w) == 1 && other != NONE && degree(chord(other), path[w]) == 5;
            return full ? 2 : roman(w) == 5 ? 1 : 0;
        }
        return NONE;
    }
}
