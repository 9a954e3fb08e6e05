import java.util.Arrays;

/** Keys along a piece of music: what sounds in each window, and the cheapest path of keys through them. */
public final class KeyPath {
    public static final int NONE = -1;

    private static final int NO_SUCH = -2;
    private static final int BAD_NUMBER = -3;
    private static final int TOO_MANY = -4;
    private static final int NOT_NOW = -5;
    private static final int TEXT_REFUSED = -30;

    private static final int MOST_NOTES = 100;
    private static final int MOST_TICKS = 512;
    private static final int LONGEST = 64;
    private static final int HIGHEST = 127;
    private static final int MOST_BYTES = 700;
    private static final int BYTES_A_FEED = 20;
    private static final int MOST_IN_CHORD = 6;
    private static final int MOST_ACTS = 10;

    private static final int MOST_WINDOWS = 48;
    private static final int LEAST_SPAN = 4;
    private static final int MOST_SPAN = 128;
    private static final int TONES = 12;
    private static final int KEYS = 24;
    private static final int TRIADS = 36;
    private static final int CELLS = MOST_WINDOWS * KEYS;
    /** The row behind those of the windows, for the whole piece as one. */
    private static final int WHOLE = MOST_WINDOWS;

    private static final int MOST_WEIGHT = 99;
    private static final int MOST_PRICE = 999;
    private static final int MOST_FACTOR = 100;
    private static final int MOST_TIES = 1000000;
    private static final int MOST_EXTRA = 9999;
    private static final int MOST_LASTING = 16;
    /** Far above every cost that can be, and small enough that two of them still fit into an int. */
    private static final int UNREACHED = 1000000000;

    private static final int[] FIRST_WEIGHTS = {
        63, 22, 35, 23, 44, 41, 25, 52, 24, 37, 23, 29,
        63, 27, 35, 54, 26, 35, 25, 48, 40, 27, 33, 32};
    /** STEPS of the seven DEGREES, major ones first. */
    private static final int[] DEGREE_STEPS = {0, 2, 4, 5, 7, 9, 11, 0, 2, 3, 5, 7, 8, 10};
    private static final int[] DEGREE_KINDS = {0, 1, 1, 0, 0, 1, 2, 1, 2, 0, 1, 1, 0, 0};
    private static final int[] THIRDS = {4, 3, 3};
    private static final int[] FIFTHS = {7, 7, 6};
    /** The tones of the letters a to g. */
    private static final int[] LETTER_TONES = {9, 11, 0, 2, 4, 5, 7};
    private static final String TONE_LETTERS = "ccddeffggaab";
    private static final String TONE_SHARPS = " # #  # # # ";

    private final TextReader reader = new TextReader();
    private final Notes notes = new Notes();
    private final History history = new History();
    private final Windows windows = new Windows();
    private final Profiles profiles = new Profiles();
    private final Net net = new Net();
    private final PathFinder finder = new PathFinder();
    private final Detours detours = new Detours();

    public KeyPath() {
    }

    public int feed(int a, int b, int c, int d, int e) {
        if (reader.held > MOST_BYTES - BYTES_A_FEED) {
            return TOO_MANY;
        }
        reader.append(a);
        reader.append(b);
        reader.append(c);
        reader.append(d);
        reader.append(e);
        return reader.held;
    }

    public int load(int n) {
        if (n < 0 || n > reader.held) {
            return BAD_NUMBER;
        }
        reader.read(n);
        if (reader.trouble != 0) {
            return TEXT_REFUSED - reader.trouble;
        }
        notes.become(reader.found);
        history.forget();
        notesChanged();
        return notes.size;
    }

    public int fault(int what) {
        if (what == 0) {
            return reader.trouble;
        }
        return what == 1 ? reader.place : NONE;
    }

    public int put(int tick, int length, int pitch) {
        if (!Notes.canBe(tick, length, pitch)) {
            return BAD_NUMBER;
        }
        if (notes.size >= MOST_NOTES) {
            return TOO_MANY;
        }
        int place = notes.placeFor(tick, length, pitch);
        notes.insert(place, tick, length, pitch);
        history.remember(History.PUT, place, 0, 0, 0);
        notesChanged();
        return place;
    }

    public int drop(int note) {
        if (note < 0 || note >= notes.size) {
            return NO_SUCH;
        }
        history.remember(History.DROP, note, notes.ticks[note], notes.lengths[note], notes.pitches[note]);
        notes.remove(note);
        notesChanged();
        return notes.size;
    }

    public int shift(int by) {
        if (by < -HIGHEST || by > HIGHEST || !notes.canMove(by)) {
            return BAD_NUMBER;
        }
        notes.move(by);
        history.remember(History.SHIFT, 0, 0, 0, by);
        notesChanged();
        return notes.size;
    }

    public int undo() {
        if (history.size == 0) {
            return NOT_NOW;
        }
        history.takeBack(notes);
        notesChanged();
        return history.size;
    }

    public int note(int note, int what) {
        if (note < 0 || note >= notes.size) {
            return NO_SUCH;
        }
        switch (what) {
            case 0:
                return notes.ticks[note];
            case 1:
                return notes.lengths[note];
            case 2:
                return notes.pitches[note];
            case 3:
                return notes.pitches[note] % TONES;
            default:
                return NO_SUCH;
        }
    }

    public int windows(int wide, int hop) {
        if (outOf(LEAST_SPAN, MOST_SPAN, wide) || outOf(LEAST_SPAN, MOST_SPAN, hop)) {
            return BAD_NUMBER;
        }
        if (Windows.beginsAhead(notes.end(), hop) > MOST_WINDOWS) {
            return TOO_MANY;
        }
        windows.wide = wide;
        windows.hop = hop;
        notesChanged();
        freshWindows();
        return windows.size;
    }

    public int weight(int mode, int step, int weight) {
        if (noMode(mode) || noTone(step)) {
            return NO_SUCH;
        }
        if (outOf(0, MOST_WEIGHT, weight)) {
            return BAD_NUMBER;
        }
        int was = profiles.weights[mode * TONES + step];
        profiles.weights[mode * TONES + step] = weight;
        weightsChanged();
        return was;
    }

    public int net(int fifth, int relative, int parallel, int factor) {
        if (outOf(0, MOST_PRICE, fifth) || outOf(0, MOST_PRICE, relative)
                || outOf(0, MOST_PRICE, parallel) || outOf(0, MOST_FACTOR, factor)) {
            return BAD_NUMBER;
        }
        int was = net.factor;
        net.fifth = fifth;
        net.relative = relative;
        net.parallel = parallel;
        net.factor = factor;
        net.stale = true;
        pathChanged();
        return was;
    }

    public int pin(int window, int key) {
        if (outOf(0, MOST_WINDOWS - 1, window) || (key != NONE && noKey(key))) {
            return NO_SUCH;
        }
        int was = finder.pins[window];
        finder.pins[window] = key;
        pathChanged();
        return was;
    }

    public int tones(int window, int tone) {
        if (noWindow(window)) {
            return NO_SUCH;
        }
        if (tone == NONE) {
            return windows.totals[window];
        }
        return noTone(tone) ? BAD_NUMBER : windows.counts[window * TONES + tone];
    }

    public int match(int window, int key, int what) {
        if (noWindow(window) || noKey(key) || outOf(0, 1, what)) {
            return NO_SUCH;
        }
        int lower = windows.totals[window];
        if (lower == 0) {
            return what;
        }
        int upper = profiles.weigh(windows, window, key);
        int common = commonDivisor(upper, lower);
        if (common < 1) {
            return what;
        }
        return what == 0 ? upper / common : lower / common;
    }

    public int fit(int window, int key) {
        if (noWindow(window) || noKey(key)) {
            return NO_SUCH;
        }
        freshFits();
        return profiles.fits[window * KEYS + key];
    }

    public int ranked(int window, int k) {
        if (noWindow(window)) {
            return NO_SUCH;
        }
        if (noKey(k)) {
            return BAD_NUMBER;
        }
        freshFits();
        return profiles.keyOfRank(window, k);
    }

    public int overall(int k) {
        if (noKey(k)) {
            return BAD_NUMBER;
        }
        freshFits();
        return profiles.keyOfRank(WHOLE, k);
    }

    public int chord(int window) {
        return noWindow(window) ? NO_SUCH : windows.chords[window];
    }

    public int distance(int from, int to) {
        if (noKey(from) || noKey(to)) {
            return NO_SUCH;
        }
        net.refresh();
        return net.factor * net.sums[from * KEYS + to];
    }

    public int way(int from, int to, int k) {
        if (noKey(from) || noKey(to)) {
            return NO_SUCH;
        }
        if (k < 0) {
            return BAD_NUMBER;
        }
        net.refresh();
        return net.keyOnWay(from, to, k);
    }

    public int cost() {
        return noPath() ? NOT_NOW : finder.least;
    }

    public int key(int window) {
        if (noWindow(window)) {
            return NO_SUCH;
        }
        return noPath() ? NOT_NOW : finder.path[window];
    }

    public int ties() {
        return noPath() ? NOT_NOW : finder.tied;
    }

    public int through(int window, int key) {
        if (noWindow(window) || noKey(key)) {
            return NO_SUCH;
        }
        if (noPath()) {
            return NOT_NOW;
        }
        detours.lookAhead(finder);
        return toldCost(detours.costThrough(finder, window, key));
    }

    public int unsure(int window, int d) {
        if (noWindow(window)) {
            return NO_SUCH;
        }
        if (outOf(0, MOST_EXTRA, d)) {
            return BAD_NUMBER;
        }
        if (noPath()) {
            return NOT_NOW;
        }
        detours.lookAhead(finder);
        return detours.keysUpTo(finder, window, finder.least + d);
    }

    public int second(int what) {
        if (outOf(0, 1, what)) {
            return NO_SUCH;
        }
        if (noPath()) {
            return NOT_NOW;
        }
        detours.lookAhead(finder);
        int best = UNREACHED;
        int first = NONE;
        for (int window = 0; window < finder.size; window++) {
            int other = detours.leastAside(finder, window);
            if (other < best) {
                best = other;
                first = window;
            }
        }
        return what == 0 ? toldCost(best) : first;
    }

    public int within(int n) {
        if (outOf(0, MOST_WINDOWS - 1, n)) {
            return BAD_NUMBER;
        }
        if (noPath()) {
            return NOT_NOW;
        }
        if (n >= finder.moves()) {
            return finder.least;
        }
        detours.countMoves(finder);
        return toldCost(detours.leastByMoves[n]);
    }

    public int lasting(int m) {
        if (outOf(1, MOST_LASTING, m)) {
            return BAD_NUMBER;
        }
        return noPath() ? NOT_NOW : toldCost(detours.leastLasting(finder, m));
    }

    public int firm() {
        return noPath() ? NOT_NOW : finder.firmFactor(net);
    }

    public int segments() {
        return noPath() ? NOT_NOW : finder.segmentCount;
    }

    public int segment(int segment, int what) {
        if (noPath()) {
            return NOT_NOW;
        }
        if (segment < 0 || segment >= finder.segmentCount) {
            return NO_SUCH;
        }
        int first = finder.firsts[segment];
        switch (what) {
            case 0:
                return first;
            case 1:
                return finder.lastOf(segment);
            case 2:
                return finder.path[first];
            case 3:
                return first * windows.hop;
            default:
                return NO_SUCH;
        }
    }

    public int pivot(int segment, int what) {
        if (noPath()) {
            return NOT_NOW;
        }
        if (segment < 0 || segment >= finder.segmentCount - 1 || outOf(0, 3, what)) {
            return NO_SUCH;
        }
        int window = finder.lastOf(segment);
        int keyAhead = finder.path[window];
        int keyBehind = finder.path[window + 1];
        int triad = windows.pivotTriad(window, keyAhead, keyBehind);
        if (triad == NONE) {
            return NONE;
        }
        switch (what) {
            case 0:
                return triad;
            case 1:
                return degreeOf(triad, keyAhead);
            case 2:
                return degreeOf(triad, keyBehind);
            default:
                return windows.sound(window, triad);
        }
    }

    public int roman(int window) {
        if (noWindow(window)) {
            return NO_SUCH;
        }
        return noPath() ? NOT_NOW : romanOf(window);
    }

    public int outside() {
        if (noPath()) {
            return NOT_NOW;
        }
        int number = 0;
        for (int window = 0; window < windows.size; window++) {
            if (windows.chords[window] != NONE && romanOf(window) == NONE) {
                number++;
            }
        }
        return number;
    }

    public int progression(int k) {
        if (k < NONE) {
            return BAD_NUMBER;
        }
        freshWindows();
        int told = 0;
        int latest = NONE;
        for (int window = 0; window < windows.size; window++) {
            int triad = windows.chords[window];
            if (triad == NONE || triad == latest) {
                continue;
            }
            if (told == k) {
                return triad;
            }
            told++;
            latest = triad;
        }
        return k == NONE ? told : NONE;
    }

    public int confirmed(int segment) {
        if (noPath()) {
            return NOT_NOW;
        }
        if (segment < 0 || segment >= finder.segmentCount) {
            return NO_SUCH;
        }
        int first = finder.firsts[segment];
        int last = finder.lastOf(segment);
        for (int window = first; window <= last; window++) {
            int other = windows.otherChordAhead(window, first);
            if (romanOf(window) == 1 && other != NONE && romanOf(other) == 5) {
                return window;
            }
        }
        return NONE;
    }

    public int learnt(int mode, int step) {
        if (noMode(mode) || noTone(step)) {
            return NO_SUCH;
        }
        if (noPath()) {
            return NOT_NOW;
        }
        int part = 0;
        int all = 0;
        for (int window = 0; window < windows.size; window++) {
            int key = finder.path[window];
            if (modeOf(key) == mode) {
                part += windows.counts[window * TONES + (key + step) % TONES];
                all += windows.totals[window];
            }
        }
        return all == 0 ? NONE : 100 * part / all;
    }

    public int foreign(int window, int key) {
        if (noWindow(window) || noKey(key)) {
            return NO_SUCH;
        }
        int sum = 0;
        for (int tone = 0; tone < TONES; tone++) {
            if (degreeOn(tone, key) == NONE) {
                sum += windows.counts[window * TONES + tone];
            }
        }
        return sum;
    }

    public int close() {
        if (noPath()) {
            return NOT_NOW;
        }
        int last = windows.lastSounding();
        if (last == NONE) {
            return NONE;
        }
        int ending = romanOf(last);
        if (ending == 5) {
            return 1;
        }
        int other = windows.otherChordAhead(last, 0);
        if (ending != 1 || other == NONE) {
            return 0;
        }
        return degreeOf(windows.chords[other], finder.path[last]) == 5 ? 2 : 0;
    }

    public int degree(int triad, int key) {
        if (outOf(0, TRIADS - 1, triad) || noKey(key)) {
            return NO_SUCH;
        }
        return degreeOf(triad, key);
    }

    public int name(int key, int i) {
        if (noKey(key)) {
            return NO_SUCH;
        }
        if (i < 0) {
            return BAD_NUMBER;
        }
        if (i == 0) {
            return TONE_LETTERS.charAt(key % TONES);
        }
        int letters = 1;
        if (TONE_SHARPS.charAt(key % TONES) == '#') {
            letters = 2;
        }
        if (i < letters) {
            return '#';
        }
        return i == letters && modeOf(key) == 1 ? 'm' : NONE;
    }

    public int count(int what) {
        freshWindows();
        switch (what) {
            case 0:
                return notes.size;
            case 1:
                return windows.size;
            case 2:
                return notes.end();
            case 3:
                return history.size;
            case 4:
                return reader.held;
            case 5:
                return windows.wide;
            case 6:
                return windows.hop;
            case 7:
                return windows.silentOnes();
            case 8:
                return net.fifth;
            case 9:
                return net.relative;
            case 10:
                return net.parallel;
            case 11:
                return net.factor;
            default:
                return NONE;
        }
    }

    // What is worked out from the state is worked out anew only when it is asked for.

    private void notesChanged() {
        windows.stale = true;
        weightsChanged();
    }

    private void weightsChanged() {
        profiles.stale = true;
        pathChanged();
    }

    private void pathChanged() {
        finder.stale = true;
    }

    private void freshWindows() {
        if (windows.stale) {
            windows.recount(notes);
        }
    }

    private void freshFits() {
        freshWindows();
        if (profiles.stale) {
            profiles.judge(windows);
        }
    }

    private boolean noPath() {
        if (finder.stale) {
            freshFits();
            net.refresh();
            finder.judge(windows, profiles);
            finder.solve(net, net.factor);
            finder.stale = false;
            finder.firmKnown = false;
            detours.forget();
        }
        return !finder.exists;
    }

    private boolean noWindow(int window) {
        freshWindows();
        return window < 0 || window >= windows.size;
    }

    /** ROMAN of a WINDOW that is there, once there is a PATH. */
    private int romanOf(int window) {
        int triad = windows.chords[window];
        return triad == NONE ? NONE : degreeOf(triad, finder.path[window]);
    }

    private static boolean outOf(int least, int most, int number) {
        return number < least || number > most;
    }

    private static boolean noKey(int key) {
        return outOf(0, KEYS - 1, key);
    }

    private static boolean noTone(int tone) {
        return outOf(0, TONES - 1, tone);
    }

    private static boolean noMode(int mode) {
        return outOf(0, 1, mode);
    }

    private static int modeOf(int key) {
        return key < TONES ? 0 : 1;
    }

    private static int toldCost(int cost) {
        return cost >= UNREACHED ? NONE : cost;
    }

    private static int plus(int cost, int more) {
        return Math.min(UNREACHED, cost + more);
    }

    private static int commonDivisor(int a, int b) {
        int greater = a;
        int lesser = b;
        for (int round = 0; round < 64 && lesser != 0; round++) {
            int rest = greater % lesser;
            greater = lesser;
            lesser = rest;
        }
        return greater;
    }

    /** The DEGREE of a KEY that stands on a TONE, of whatever kind. */
    private static int degreeOn(int tone, int key) {
        int step = (tone + TONES - key % TONES) % TONES;
        for (int i = 0; i < 7; i++) {
            if (DEGREE_STEPS[modeOf(key) * 7 + i] == step) {
                return i + 1;
            }
        }
        return NONE;
    }

    private static int degreeOf(int triad, int key) {
        int kind = triad % 3;
        int found = degreeOn(triad / 3, key);
        if (found == NONE) {
            return NONE;
        }
        boolean minorsOtherFifth = modeOf(key) == 1 && found == 5 && kind == 0;
        return minorsOtherFifth || DEGREE_KINDS[modeOf(key) * 7 + found - 1] == kind ? found : NONE;
    }

    /** The i-th TONE of a TRIAD, from 0 to 2. */
    private static int toneOf(int triad, int i) {
        int root = triad / 3;
        if (i == 0) {
            return root;
        }
        return (root + (i == 1 ? THIRDS[triad % 3] : FIFTHS[triad % 3])) % TONES;
    }

    /** NOTES in their order. */
    private static final class Notes {
        final int[] ticks = new int[MOST_NOTES];
        final int[] lengths = new int[MOST_NOTES];
        final int[] pitches = new int[MOST_NOTES];
        int size;

        static boolean canBe(int tick, int length, int pitch) {
            return tick >= 0 && tick < MOST_TICKS && length >= 1 && length <= LONGEST
                    && pitch >= 0 && pitch <= HIGHEST && tick + length <= MOST_TICKS;
        }

        int placeFor(int tick, int length, int pitch) {
            int place = size;
            while (place > 0 && isBehind(place - 1, tick, length, pitch)) {
                place--;
            }
            return place;
        }

        private boolean isBehind(int i, int tick, int length, int pitch) {
            if (ticks[i] != tick) {
                return ticks[i] > tick;
            }
            if (pitches[i] != pitch) {
                return pitches[i] > pitch;
            }
            return lengths[i] > length;
        }

        void insert(int place, int tick, int length, int pitch) {
            if (size >= MOST_NOTES || place < 0 || place > size) {
                return;
            }
            int moved = size - place;
            System.arraycopy(ticks, place, ticks, place + 1, moved);
            System.arraycopy(lengths, place, lengths, place + 1, moved);
            System.arraycopy(pitches, place, pitches, place + 1, moved);
            ticks[place] = tick;
            lengths[place] = length;
            pitches[place] = pitch;
            size++;
        }

        void remove(int place) {
            if (place < 0 || place >= size) {
                return;
            }
            int moved = size - place - 1;
            System.arraycopy(ticks, place + 1, ticks, place, moved);
            System.arraycopy(lengths, place + 1, lengths, place, moved);
            System.arraycopy(pitches, place + 1, pitches, place, moved);
            size--;
        }

        boolean canMove(int by) {
            for (int i = 0; i < size; i++) {
                if (outOf(0, HIGHEST, pitches[i] + by)) {
                    return false;
                }
            }
            return true;
        }

        void move(int by) {
            for (int i = 0; i < size; i++) {
                pitches[i] += by;
            }
        }

        int end() {
            int greatest = 0;
            for (int i = 0; i < size; i++) {
                greatest = Math.max(greatest, ticks[i] + lengths[i]);
            }
            return greatest;
        }

        void become(Notes others) {
            System.arraycopy(others.ticks, 0, ticks, 0, MOST_NOTES);
            System.arraycopy(others.lengths, 0, lengths, 0, MOST_NOTES);
            System.arraycopy(others.pitches, 0, pitches, 0, MOST_NOTES);
            size = others.size;
        }
    }

    /** The latest ACTS, each with what takes it back; the oldest first. */
    private static final class History {
        static final int PUT = 0;
        static final int DROP = 1;
        static final int SHIFT = 2;

        private final int[] kinds = new int[MOST_ACTS];
        private final int[] places = new int[MOST_ACTS];
        private final int[] ticks = new int[MOST_ACTS];
        private final int[] lengths = new int[MOST_ACTS];
        /** Of a DROP the PITCH, of a SHIFT by how much. */
        private final int[] pitches = new int[MOST_ACTS];
        int size;

        void remember(int kind, int place, int tick, int length, int pitch) {
            if (size >= MOST_ACTS) {
                forgetOldest();
            }
            kinds[size] = kind;
            places[size] = place;
            ticks[size] = tick;
            lengths[size] = length;
            pitches[size] = pitch;
            size++;
        }

        private void forgetOldest() {
            size = MOST_ACTS - 1;
            System.arraycopy(kinds, 1, kinds, 0, size);
            System.arraycopy(places, 1, places, 0, size);
            System.arraycopy(ticks, 1, ticks, 0, size);
            System.arraycopy(lengths, 1, lengths, 0, size);
            System.arraycopy(pitches, 1, pitches, 0, size);
        }

        void takeBack(Notes notes) {
            if (size < 1) {
                return;
            }
            size--;
            if (kinds[size] == PUT) {
                notes.remove(places[size]);
            } else if (kinds[size] == DROP) {
                notes.insert(places[size], ticks[size], lengths[size], pitches[size]);
            } else {
                notes.move(-pitches[size]);
            }
        }

        void forget() {
            size = 0;
        }
    }

    /** THE TAPE, and how THE TEXT on it is read. */
    private static final class TextReader {
        private static final int MISPLACED = 1;
        private static final int BAD_LENGTH = 2;
        private static final int BAD_NOTE = 3;
        private static final int TOO_LATE = 4;

        private final int[] tape = new int[MOST_BYTES];
        int held;
        final Notes found = new Notes();
        int trouble;
        int place = NONE;
        private int length;
        private int at;
        private int tick;
        private final int[] named = new int[MOST_IN_CHORD];
        private int names;

        void append(int four) {
            for (int moved = 24; moved >= 0 && held < MOST_BYTES; moved -= 8) {
                tape[held] = (four >>> moved) & 255;
                held++;
            }
        }

        void read(int bytes) {
            length = Math.min(bytes, held);
            at = 0;
            tick = 0;
            trouble = 0;
            place = NONE;
            found.size = 0;
            for (int round = 0; round <= length && trouble == 0; round++) {
                if (next() == NONE) {
                    break;
                }
                readPart();
            }
            held = 0;
        }

        /** The next byte that is no blank, NONE at the end; it is not passed. */
        private int next() {
            while (at < length && tape[at] == ' ') {
                at++;
            }
            return at < length ? tape[at] : NONE;
        }

        private void fail(int which, int where) {
            if (trouble == 0) {
                trouble = which;
                place = where;
            }
        }

        private void readPart() {
            int first = next();
            names = 0;
            if (first == '|') {
                at++;
            } else if (first == '-') {
                at++;
                readLength();
            } else if (first == '(') {
                at++;
                readNames();
                readLength();
            } else if (isLetter(first)) {
                readName();
                readLength();
            } else {
                fail(MISPLACED, at);
            }
        }

        private static boolean isLetter(int sign) {
            return sign >= 'a' && sign <= 'g';
        }

        private static boolean isDigit(int sign) {
            return sign >= '0' && sign <= '9';
        }

        private void readNames() {
            for (int round = 0; round <= MOST_IN_CHORD && trouble == 0; round++) {
                int sign = next();
                if (sign == ')' && names > 0) {
                    at++;
                    return;
                }
                readName();
            }
        }

        private void readName() {
            int letter = next();
            int start = at;
            if (!isLetter(letter)) {
                fail(MISPLACED, start);
                return;
            }
            if (names >= MOST_IN_CHORD || found.size + names >= MOST_NOTES) {
                fail(BAD_NOTE, start);
                return;
            }
            at++;
            int pitch = LETTER_TONES[letter - 'a'] + readAccidental();
            int octave = next();
            if (!isDigit(octave)) {
                fail(MISPLACED, at);
                return;
            }
            at++;
            pitch += 12 * (octave - '0' + 1);
            if (outOf(0, HIGHEST, pitch) || isNamed(pitch)) {
                fail(BAD_NOTE, start);
                return;
            }
            named[names] = pitch;
            names++;
        }

        private int readAccidental() {
            int sign = next();
            if (sign != '#' && sign != '!') {
                return 0;
            }
            at++;
            return sign == '#' ? 1 : -1;
        }

        private boolean isNamed(int pitch) {
            for (int i = 0; i < names; i++) {
                if (named[i] == pitch) {
                    return true;
                }
            }
            return false;
        }

        /** The colon and N; what was named ahead of it sounds for so long. */
        private void readLength() {
            if (trouble != 0) {
                return;
            }
            if (next() != ':') {
                fail(MISPLACED, at);
                return;
            }
            at++;
            if (!isDigit(next())) {
                fail(MISPLACED, at);
                return;
            }
            int start = at;
            int number = readNumber();
            if (at - start > 2 || outOf(1, LONGEST, number)) {
                fail(BAD_LENGTH, start);
            } else if (tick + number > MOST_TICKS) {
                fail(TOO_LATE, start);
            } else {
                soundNamed(number);
                tick += number;
            }
        }

        /** Digits as long as they go on; held at 1000, which no N is, lest it wrap around. */
        private int readNumber() {
            int number = 0;
            while (at < length && isDigit(tape[at])) {
                number = Math.min(1000, number * 10 + tape[at] - '0');
                at++;
            }
            return number;
        }

        private void soundNamed(int ticks) {
            for (int i = 0; i < names; i++) {
                found.insert(found.placeFor(tick, ticks, named[i]), tick, ticks, named[i]);
            }
        }
    }

    /** WINDOWS with their COUNTS and CHORDS. */
    private static final class Windows {
        int wide = 16;
        int hop = 8;
        int size;
        /** A row of TONES for each WINDOW, and one for the WHOLE. */
        final int[] counts = new int[(MOST_WINDOWS + 1) * TONES];
        final int[] totals = new int[MOST_WINDOWS + 1];
        final int[] chords = new int[MOST_WINDOWS];
        boolean stale = true;

        static int beginsAhead(int end, int hop) {
            return hop < 1 ? 0 : (end + hop - 1) / hop;
        }

        void recount(Notes notes) {
            int end = notes.end();
            size = Math.min(MOST_WINDOWS, beginsAhead(end, hop));
            for (int window = 0; window < size; window++) {
                countSpan(notes, window, window * hop, window * hop + wide);
                chords[window] = fullestTriad(window);
            }
            countSpan(notes, WHOLE, 0, end);
            stale = false;
        }

        private void countSpan(Notes notes, int row, int from, int to) {
            Arrays.fill(counts, row * TONES, (row + 1) * TONES, 0);
            totals[row] = 0;
            for (int i = 0; i < notes.size; i++) {
                int begin = Math.max(from, notes.ticks[i]);
                int end = Math.min(to, notes.ticks[i] + notes.lengths[i]);
                if (end > begin) {
                    counts[row * TONES + notes.pitches[i] % TONES] += end - begin;
                    totals[row] += end - begin;
                }
            }
        }

        /** The rest taken off, a TRIAD has twice its own less all: its own alone decide. */
        private int fullestTriad(int window) {
            if (totals[window] == 0) {
                return NONE;
            }
            int best = NONE;
            int most = NONE;
            for (int triad = 0; triad < TRIADS; triad++) {
                int own = 0;
                for (int i = 0; i < 3; i++) {
                    own += counts[window * TONES + toneOf(triad, i)];
                }
                if (own > most) {
                    most = own;
                    best = triad;
                }
            }
            return best;
        }

        int silentOnes() {
            int number = 0;
            for (int window = 0; window < size; window++) {
                if (totals[window] == 0) {
                    number++;
                }
            }
            return number;
        }

        int lastSounding() {
            int window = size - 1;
            while (window >= 0 && chords[window] == NONE) {
                window--;
            }
            return window;
        }

        /** The last WINDOW ahead of one, not ahead of first, that sounds with another CHORD. */
        int otherChordAhead(int window, int first) {
            for (int other = window - 1; other >= first; other--) {
                if (chords[other] != NONE && chords[other] != chords[window]) {
                    return other;
                }
            }
            return NONE;
        }

        /** SOUND of a TRIAD in a WINDOW and the next one. */
        int sound(int window, int triad) {
            int least = UNREACHED;
            for (int i = 0; i < 3; i++) {
                int tone = toneOf(triad, i);
                int both = counts[window * TONES + tone] + counts[(window + 1) * TONES + tone];
                least = Math.min(least, both);
            }
            return least;
        }

        int pivotTriad(int window, int keyAhead, int keyBehind) {
            int best = NONE;
            int most = 0;
            for (int triad = 0; triad < TRIADS; triad++) {
                if (degreeOf(triad, keyAhead) == NONE || degreeOf(triad, keyBehind) == NONE) {
                    continue;
                }
                int heard = sound(window, triad);
                if (heard > most) {
                    most = heard;
                    best = triad;
                }
            }
            return best;
        }
    }

    /** WEIGHTS, and how well KEYS FIT by them. */
    private static final class Profiles {
        final int[] weights = FIRST_WEIGHTS.clone();
        /** A row of KEYS for each WINDOW, and one for the WHOLE. */
        final int[] fits = new int[(MOST_WINDOWS + 1) * KEYS];
        final int[] bests = new int[MOST_WINDOWS + 1];
        boolean stale = true;

        /** The sum of COUNTS times WEIGHTS. */
        int weigh(Windows windows, int row, int key) {
            int profile = modeOf(key) * TONES;
            int sum = 0;
            for (int step = 0; step < TONES; step++) {
                sum += weights[profile + step] * windows.counts[row * TONES + (key + step) % TONES];
            }
            return sum;
        }

        void judge(Windows windows) {
            for (int window = 0; window < windows.size; window++) {
                judgeRow(windows, window);
            }
            judgeRow(windows, WHOLE);
            stale = false;
        }

        private void judgeRow(Windows windows, int row) {
            int total = windows.totals[row];
            bests[row] = 0;
            for (int key = 0; key < KEYS; key++) {
                int found = total == 0 ? 0 : 100 * weigh(windows, row, key) / total;
                fits[row * KEYS + key] = found;
                bests[row] = Math.max(bests[row], found);
            }
        }

        int keyOfRank(int row, int rank) {
            for (int key = 0; key < KEYS; key++) {
                if (betterThan(row, key) == rank) {
                    return key;
                }
            }
            return NONE;
        }

        private int betterThan(int row, int key) {
            int own = fits[row * KEYS + key];
            int better = 0;
            for (int other = 0; other < KEYS; other++) {
                int its = fits[row * KEYS + other];
                if (its > own || (its == own && other < key)) {
                    better++;
                }
            }
            return better;
        }
    }

    /** THE NET, and the least sums along it. */
    private static final class Net {
        private static final int EDGES = 4;
        /** More than the KEYS of any way, so that a price and a number of KEYS fit into one number. */
        private static final int RANK = 64;

        int fifth = 40;
        int relative = 30;
        int parallel = 60;
        int factor = 1;
        boolean stale = true;
        final int[] sums = new int[KEYS * KEYS];
        /** RANK times the sum, and how many steps: least where the way is the best one. */
        private final int[] ranks = new int[KEYS * KEYS];
        private final int[] row = new int[KEYS];

        private static int neighbour(int key, int edge) {
            int mode = modeOf(key);
            if (edge == 0) {
                return raised(key, 7, mode);
            }
            if (edge == 1) {
                return raised(key, 5, mode);
            }
            if (edge == 2) {
                return raised(key, mode == 0 ? 9 : 3, 1 - mode);
            }
            return raised(key, 0, 1 - mode);
        }

        private static int raised(int key, int by, int mode) {
            return mode * TONES + (key + by) % TONES;
        }

        private int rankOfStep(int edge) {
            int price = parallel;
            if (edge == 0 || edge == 1) {
                price = fifth;
            } else if (edge == 2) {
                price = relative;
            }
            return RANK * price + 1;
        }

        /** From all KEYS of a mode THE NET looks alike, so that one row a mode tells all. */
        void refresh() {
            if (!stale) {
                return;
            }
            for (int mode = 0; mode < 2; mode++) {
                reachFrom(mode * TONES);
                for (int tone = 0; tone < TONES; tone++) {
                    copyRow(mode * TONES + tone, tone);
                }
            }
            stale = false;
        }

        private void reachFrom(int source) {
            Arrays.fill(row, UNREACHED);
            row[source] = 0;
            boolean changed = true;
            for (int round = 0; round < KEYS && changed; round++) {
                changed = false;
                for (int key = 0; key < KEYS; key++) {
                    for (int edge = 0; edge < EDGES; edge++) {
                        int there = neighbour(key, edge);
                        int rank = row[key] + rankOfStep(edge);
                        if (rank < row[there]) {
                            row[there] = rank;
                            changed = true;
                        }
                    }
                }
            }
        }

        private void copyRow(int from, int tone) {
            for (int key = 0; key < KEYS; key++) {
                int cell = from * KEYS + raised(key, tone, modeOf(key));
                ranks[cell] = row[key];
                sums[cell] = row[key] / RANK;
            }
        }

        int keyOnWay(int from, int to, int k) {
            if (k >= KEYS) {
                return NONE;
            }
            int key = from;
            for (int step = 0; step < k; step++) {
                if (key == to) {
                    return NONE;
                }
                key = nextOnWay(key, to);
            }
            return key;
        }

        private int nextOnWay(int key, int to) {
            int least = KEYS;
            for (int edge = 0; edge < EDGES; edge++) {
                int there = neighbour(key, edge);
                if (ranks[key * KEYS + to] == rankOfStep(edge) + ranks[there * KEYS + to]) {
                    least = Math.min(least, there);
                }
            }
            return least < KEYS ? least : to;
        }
    }

    /** THE PATH: found from the last WINDOW back, so that the first KEYS can be chosen first. */
    private static final class PathFinder {
        final int[] pins = new int[MOST_WINDOWS];
        int size;
        /** What a KEY costs in a WINDOW by itself. */
        final int[] own = new int[CELLS];
        /** Whether a WINDOW keeps the KEY of the one ahead. */
        final boolean[] kept = new boolean[MOST_WINDOWS];
        /** DISTANCES with the factor of the latest solve. */
        final int[] steps = new int[KEYS * KEYS];
        /** The least cost of a WINDOW with a KEY and all behind it, and how many ways cost that. */
        final int[] behind = new int[CELLS];
        private final int[] ways = new int[CELLS];
        boolean exists;
        int least;
        int tied;
        final int[] path = new int[MOST_WINDOWS];
        final int[] firsts = new int[MOST_WINDOWS];
        int segmentCount;
        boolean stale = true;
        boolean firmKnown;
        private int firm;

        PathFinder() {
            Arrays.fill(pins, NONE);
        }

        void judge(Windows windows, Profiles profiles) {
            size = windows.size;
            for (int window = 0; window < size; window++) {
                kept[window] = window > 0 && windows.totals[window] == 0;
                for (int key = 0; key < KEYS; key++) {
                    int cell = window * KEYS + key;
                    boolean free = pins[window] == NONE || pins[window] == key;
                    own[cell] = free ? profiles.bests[window] - profiles.fits[cell] : UNREACHED;
                }
            }
        }

        void solve(Net net, int factor) {
            for (int cell = 0; cell < KEYS * KEYS; cell++) {
                steps[cell] = factor * net.sums[cell];
            }
            for (int window = size - 1; window >= 0; window--) {
                for (int key = 0; key < KEYS; key++) {
                    lookBehind(window, key);
                }
            }
            findLeast();
            if (exists) {
                follow();
            }
            splitSegments();
        }

        private void lookBehind(int window, int key) {
            int cell = window * KEYS + key;
            behind[cell] = own[cell];
            ways[cell] = 1;
            if (own[cell] >= UNREACHED || window == size - 1) {
                return;
            }
            if (kept[window + 1]) {
                behind[cell] = plus(own[cell], behind[cell + KEYS]);
                ways[cell] = ways[cell + KEYS];
                return;
            }
            int next = (window + 1) * KEYS;
            int best = UNREACHED;
            int number = 0;
            for (int other = 0; other < KEYS; other++) {
                int price = behind[next + other] + steps[key * KEYS + other];
                if (price < best) {
                    best = price;
                    number = ways[next + other];
                } else if (price == best) {
                    number = Math.min(MOST_TIES, number + ways[next + other]);
                }
            }
            behind[cell] = plus(own[cell], best);
            ways[cell] = number;
        }

        private void findLeast() {
            least = size == 0 ? 0 : UNREACHED;
            tied = size == 0 ? 1 : 0;
            for (int key = 0; key < KEYS && size > 0; key++) {
                if (behind[key] < least) {
                    least = behind[key];
                    tied = ways[key];
                } else if (behind[key] == least) {
                    tied = Math.min(MOST_TIES, tied + ways[key]);
                }
            }
            exists = least < UNREACHED;
        }

        private void follow() {
            for (int window = 0; window < size; window++) {
                path[window] = window == 0 ? firstKey() : nextKey(window);
            }
        }

        private int firstKey() {
            for (int key = 0; key < KEYS; key++) {
                if (behind[key] == least) {
                    return key;
                }
            }
            return 0;
        }

        private int nextKey(int window) {
            int before = path[window - 1];
            if (kept[window]) {
                return before;
            }
            int ahead = (window - 1) * KEYS + before;
            int rest = behind[ahead] - own[ahead];
            for (int key = 0; key < KEYS; key++) {
                if (behind[window * KEYS + key] + steps[before * KEYS + key] == rest) {
                    return key;
                }
            }
            return before;
        }

        private void splitSegments() {
            segmentCount = 0;
            for (int window = 0; window < size && exists; window++) {
                if (window == 0 || path[window] != path[window - 1]) {
                    firsts[segmentCount] = window;
                    segmentCount++;
                }
            }
        }

        /** The last WINDOW of a SEGMENT that is there. */
        int lastOf(int segment) {
            return segment + 1 < segmentCount ? firsts[segment + 1] - 1 : size - 1;
        }

        int moves() {
            return Math.max(0, segmentCount - 1);
        }

        int firmFactor(Net net) {
            if (!firmKnown) {
                firm = searchFirm(net);
                firmKnown = true;
                solve(net, net.factor);
            }
            return firm;
        }

        /** A path that stays in its KEY costs the same with every factor, all others no less: once firm, firm beyond. */
        private int searchFirm(Net net) {
            if (!isFirm(net, MOST_FACTOR)) {
                return NONE;
            }
            int low = 0;
            int high = MOST_FACTOR;
            for (int round = 0; round < 8 && low < high; round++) {
                int middle = (low + high) / 2;
                if (isFirm(net, middle)) {
                    high = middle;
                } else {
                    low = middle + 1;
                }
            }
            return high;
        }

        private boolean isFirm(Net net, int factor) {
            solve(net, factor);
            return segmentCount < 2;
        }
    }

    /** The least costs of PATHS of which something is asked. */
    private static final class Detours {
        /** The least cost of a WINDOW with a KEY and all ahead of it. */
        private final int[] ahead = new int[CELLS];
        private boolean aheadKnown;
        /** For each number of MOVES a row of KEYS: the least cost up to some WINDOW. */
        private final int[] byMoves = new int[CELLS];
        final int[] leastByMoves = new int[MOST_WINDOWS];
        private boolean movesKnown;
        /** The least cost up to a WINDOW with a KEY whose SEGMENT is long enough there. */
        private final int[] settled = new int[CELLS];

        void forget() {
            aheadKnown = false;
            movesKnown = false;
        }

        void lookAhead(PathFinder finder) {
            if (aheadKnown) {
                return;
            }
            for (int window = 0; window < finder.size; window++) {
                for (int key = 0; key < KEYS; key++) {
                    int cell = window * KEYS + key;
                    int before = 0;
                    if (finder.kept[window]) {
                        before = ahead[cell - KEYS];
                    } else if (window > 0) {
                        before = cheapestMove(finder, ahead, (window - 1) * KEYS, key);
                    }
                    ahead[cell] = plus(finder.own[cell], before);
                }
            }
            aheadKnown = true;
        }

        /** The least of a row's costs with the DISTANCE from there to a KEY. */
        private static int cheapestMove(PathFinder finder, int[] costs, int row, int key) {
            int best = UNREACHED;
            for (int other = 0; other < KEYS; other++) {
                best = Math.min(best, costs[row + other] + finder.steps[other * KEYS + key]);
            }
            return best;
        }

        int costThrough(PathFinder finder, int window, int key) {
            int cell = window * KEYS + key;
            if (ahead[cell] >= UNREACHED || finder.behind[cell] >= UNREACHED) {
                return UNREACHED;
            }
            return ahead[cell] + finder.behind[cell] - finder.own[cell];
        }

        int keysUpTo(PathFinder finder, int window, int most) {
            int number = 0;
            for (int key = 0; key < KEYS; key++) {
                if (costThrough(finder, window, key) <= most) {
                    number++;
                }
            }
            return number;
        }

        /** The least cost with another KEY in a WINDOW than THE PATH has there. */
        int leastAside(PathFinder finder, int window) {
            int best = UNREACHED;
            for (int key = 0; key < KEYS; key++) {
                if (key != finder.path[window]) {
                    best = Math.min(best, costThrough(finder, window, key));
                }
            }
            return best;
        }

        /** Fewer MOVES than THE PATH has: with as many or more nothing is cheaper than it. */
        void countMoves(PathFinder finder) {
            if (movesKnown) {
                return;
            }
            int rows = Math.min(MOST_WINDOWS, finder.moves());
            for (int cell = 0; cell < rows * KEYS; cell++) {
                byMoves[cell] = finder.own[cell % KEYS];
            }
            for (int window = 1; window < finder.size; window++) {
                // From the most MOVES down: a row needs the one ahead of it as it was a WINDOW before.
                for (int moves = rows - 1; moves >= 0; moves--) {
                    goOn(finder, window, moves);
                }
            }
            for (int moves = 0; moves < rows; moves++) {
                leastByMoves[moves] = leastOf(byMoves, moves * KEYS);
            }
            movesKnown = true;
        }

        private void goOn(PathFinder finder, int window, int moves) {
            for (int key = 0; key < KEYS; key++) {
                int cell = moves * KEYS + key;
                int before = byMoves[cell];
                if (moves > 0 && !finder.kept[window]) {
                    before = Math.min(before, cheapestMove(finder, byMoves, cell - key - KEYS, key));
                }
                byMoves[cell] = plus(finder.own[window * KEYS + key], before);
            }
        }

        private static int leastOf(int[] costs, int row) {
            int best = UNREACHED;
            for (int key = 0; key < KEYS; key++) {
                best = Math.min(best, costs[row + key]);
            }
            return best;
        }

        int leastLasting(PathFinder finder, int shortest) {
            if (finder.size == 0) {
                return 0;
            }
            for (int window = 0; window < finder.size; window++) {
                for (int key = 0; key < KEYS; key++) {
                    settled[window * KEYS + key] = settle(finder, shortest, window, key);
                }
            }
            return leastOf(settled, (finder.size - 1) * KEYS);
        }

        /** A SEGMENT goes on that is long enough, or one has just become so. */
        private int settle(PathFinder finder, int shortest, int window, int key) {
            int cell = window * KEYS + key;
            int best = UNREACHED;
            if (window > 0) {
                best = plus(settled[cell - KEYS], finder.own[cell]);
            }
            int first = window - shortest + 1;
            if (first < 0) {
                return best;
            }
            int begun = 0;
            if (first > 0) {
                begun = finder.kept[first] ? UNREACHED : cheapestMove(finder, settled, (first - 1) * KEYS, key);
            }
            for (int other = first; other <= window; other++) {
                begun = plus(begun, finder.own[other * KEYS + key]);
            }
            return Math.min(best, begun);
        }
    }
}
