/** WINDOWS, PROFILES, THE NET, PINS and what is asked of them: promises 10 to 21. */
final class WindowsBoundaries extends Boundaries {
    private static final int[] MAJOR = {63, 22, 35, 23, 44, 41, 25, 52, 24, 37, 23, 29};
    private static final int[] MINOR = {63, 27, 35, 54, 26, 35, 25, 48, 40, 27, 33, 32};

    private WindowsBoundaries() {
    }

    // ---- windows

    /** "WIDE (4 to 128; 16 at first)"; "-3: one can't be". */
    static void promise10_wideFrom4To128() {
        run().is("count 5", 16).is("windows 4 8", 0).is("count 5", 4).is("windows 128 8", 0).is("count 5", 128);
        busyTape().refuses("windows 3 20", -3).refuses("windows 129 20", -3).refuses("windows 0 4", -3);
        run().refuses("windows -4 8", -3).refuses("windows MIN 8", -3).refuses("windows MAX 8", -3);
    }

    /** "HOP (4 to 128; 8)"; "-3: one can't be". */
    static void promise10_hopFrom4To128() {
        run().is("count 6", 8).is("windows 16 4", 0).is("count 6", 4).is("windows 16 128", 0).is("count 6", 128);
        busyTape().refuses("windows 12 3", -3).refuses("windows 12 129", -3).refuses("windows 4 0", -3);
        run().refuses("windows 8 -4", -3).refuses("windows 8 MIN", -3).refuses("windows 8 MAX", -3);
    }

    /** "one begins each HOP TICKS, from TICK 0 on, ahead of THE END". */
    static void promise10_aheadOfTheEnd() {
        run().is("windows 16 8", 0).does("put 0 1 60").is("count 1", 1).does("put 0 8 60").is("count 1", 1)
                .is("windows 128 8", 1).is("windows 4 4", 2).is("windows 4 7", 2).is("windows 4 8", 1)
                .does("put 8 1 60").is("count 1", 2).is("windows 128 128", 1);
        run("text c4:64 d4:64").is("windows 16 128", 1).does("put 128 1 60").is("count 1", 2)
                .is("windows 128 64", 3).is("windows 128 127", 2);
    }

    /** Rests behind the last NOTE don't make any. */
    static void promise10_restsAtTheEnd() {
        run("text c4:8 -:64").is("count 1", 1);
        run("text -:64 c4:8").is("count 1", 9);
    }

    /** "48 at most"; "-4: there would be more than 48". */
    static void promise10_fortyEightAtMost() {
        run("put 128 64 60").is("windows 4 4", 48).is("count 1", 48);
        run("put 129 64 60", "windows 8 9").refuses("windows 4 4", -4).refuses("windows 128 4", -4)
                .is("windows 4 5", 39);
        run("put 416 64 60").is("windows 16 10", 48).is("windows 16 9", -4).is("count 6", 10);
        run("put 417 64 60").is("windows 16 10", -4).is("windows 16 11", 44);
        run("put 448 64 60").is("windows 16 11", 47).is("windows 16 10", -4).is("windows 16 128", 4);
    }

    /** "Of several that which the call tells first": -3 ahead of -4. */
    static void promise10_theNumberAheadOfTooMany() {
        run("put 448 64 60").is("windows 3 4", -3).is("windows 129 4", -3).is("windows 4 3", -3)
                .is("windows 4 4", -4);
    }

    /** "(NOTES by which there would be more WINDOWS later: those beyond 48 are not there.)" */
    static void promise10_thoseBeyond48() {
        run("put 320 64 60").is("count 1", 48).is("windows 16 8", 48).is("put 384 1 60", 1).is("count 1", 48)
                .is("tones 47 0", 9).is("tones 48 0", -2).is("chord 48", -2).is("fit 48 0", -2)
                .is("ranked 48 0", -2).is("key 48", -2).is("roman 48", -2).is("through 48 0", -2)
                .is("unsure 48 0", -2).is("foreign 48 0", -2).is("match 48 0 0", -2).is("segment 0 1", 47)
                .is("windows 16 8", -4).is("count 7", 39).is("undo", 1).is("windows 16 8", 48);
    }

    /** A text, too, and it is of all that the whole piece is told. */
    static void promise10_thoseBeyond48ByAText() {
        run("text " + "c4:64".repeat(6) + "d4:64").is("count 1", 48).is("count 2", 448).is("tones 47 2", 8)
                .is("tones 47 0", 8).is("tones 48 2", -2).is("windows 16 10", 45);
    }

    /** How many are told again as NOTES come and go. */
    static void promise10_asNotesComeAndGo() {
        run("put 0 8 60").is("count 1", 1).does("put 504 8 60").is("count 1", 48).does("drop 1").is("count 1", 1)
                .does("drop 0").is("count 1", 0).does("undo").is("count 1", 1).does("undo").is("count 1", 48);
    }

    // ---- weight

    /** "at first major .., minor ..". */
    static void promise11_atFirst() {
        for (int step = 0; step < 12; step++) {
            run().is("weight 0 " + step + " 0", MAJOR[step]).is("weight 1 " + step + " 0", MINOR[step])
                    .is("weight 0 " + step + " 0", 0);
        }
    }

    /** "a WEIGHT (0 to 99)"; "-3". */
    static void promise11_from0To99() {
        run().is("weight 0 0 99", 63).is("weight 0 0 0", 99).is("weight 0 0 1", 0);
        busyTape().refuses("weight 0 0 100", -3).refuses("weight 1 11 -1", -3).refuses("weight 0 0 MIN", -3)
                .refuses("weight 0 0 MAX", -3);
    }

    /** "-2: mode". */
    static void promise11_modes0And1() {
        busyTape().refuses("weight -1 0 50", -2).refuses("weight 2 0 50", -2).refuses("weight MIN 0 50", -2)
                .refuses("weight MAX 0 50", -2);
    }

    /** "-2: STEP"; a STEP of 12 is none of the next mode. */
    static void promise11_steps0To11() {
        run().is("weight 0 11 1", 29).is("weight 1 0 2", 63).is("weight 1 11 3", 32);
        busyTape().refuses("weight 0 12 50", -2).refuses("weight 1 -1 50", -2).refuses("weight 1 12 50", -2)
                .refuses("weight 0 -1 50", -2).refuses("weight 0 MIN 50", -2).refuses("weight 0 MAX 50", -2);
    }

    static void promise11_noSuchAheadOfTheNumber() {
        run().is("weight 2 0 100", -2).is("weight 0 12 -1", -2).is("weight -1 -1 100", -2).is("weight 0 0 100", -3);
    }

    // ---- net

    /** "at FIFTH (0 to 999; 40 at first)"; "-3". */
    static void promise12_fifthFrom0To999() {
        run().is("count 8", 40).is("net 0 30 60 1", 1).is("count 8", 0).is("distance 0 7", 0)
                .is("net 999 999 999 1", 1).is("count 8", 999).is("distance 0 7", 999);
        busyTape().refuses("net -1 20 50 1", -3).refuses("net 1000 20 50 1", -3);
        run().refuses("net MIN 0 0 0", -3).refuses("net MAX 0 0 0", -3);
    }

    /** "at RELATIVE (30)". */
    static void promise12_relativeFrom0To999() {
        run().is("count 9", 30).is("net 40 0 60 1", 1).is("count 9", 0).is("distance 0 21", 0)
                .is("net 999 999 999 1", 1).is("count 9", 999).is("distance 0 21", 999);
        busyTape().refuses("net 30 -1 50 1", -3).refuses("net 30 1000 50 1", -3);
        run().refuses("net 0 MIN 0 0", -3).refuses("net 0 MAX 0 0", -3);
    }

    /** "at PARALLEL (60)". */
    static void promise12_parallelFrom0To999() {
        run().is("count 10", 60).is("net 40 30 0 1", 1).is("count 10", 0).is("distance 0 12", 0)
                .is("net 999 999 999 1", 1).is("count 10", 999).is("distance 0 12", 999);
        busyTape().refuses("net 30 20 -1 1", -3).refuses("net 30 20 1000 1", -3);
        run().refuses("net 0 0 MIN 0", -3).refuses("net 0 0 MAX 0", -3);
    }

    /** "times FACTOR (0 to 100; 1 at first)"; "FACTOR as it was". */
    static void promise12_factorFrom0To100() {
        run().is("count 11", 1).is("net 40 30 60 0", 1).is("count 11", 0).is("distance 0 7", 0)
                .is("net 40 30 60 100", 0).is("count 11", 100).is("distance 0 7", 4000).is("net 40 30 60 1", 100)
                .is("distance 0 7", 40);
        busyTape().refuses("net 30 20 50 -1", -3).refuses("net 30 20 50 101", -3);
        run().refuses("net 0 0 0 MIN", -3).refuses("net 0 0 0 MAX", -3);
    }

    // ---- pin

    /** "A WINDOW (0 to 47, there or not)"; "-2: the WINDOW". */
    static void promise13_windows0To47() {
        run().is("pin 0 5", -1).is("pin 47 6", -1).is("pin 0 NONE", 5).is("pin 47 NONE", 6);
        busyTape().refuses("pin -1 0", -2).refuses("pin 48 0", -2).refuses("pin -1 NONE", -2)
                .refuses("pin 48 NONE", -2);
        run().refuses("pin MIN 0", -2).refuses("pin MAX 0", -2);
    }

    /** "-2: KEY". */
    static void promise13_keys0To23() {
        run().is("pin 3 0", -1).is("pin 3 23", 0).is("pin 3 12", 23).is("pin 3 NONE", 12).is("pin 3 NONE", -1);
        busyTape().refuses("pin 1 24", -2).refuses("pin 1 -2", -2).refuses("pin 0 24", -2).refuses("pin 1 MIN", -2)
                .refuses("pin 1 MAX", -2);
    }

    /** "(NONE: no more)": the WINDOW is free again. */
    static void promise13_noMore() {
        run("windows 16 16", "text c4:16").is("key 0", 0).does("pin 0 9").is("key 0", 9).is("cost", 4000)
                .is("pin 0 NONE", 9).is("key 0", 0).is("cost", 0);
    }

    /** "those of WINDOWS that are not there say nothing". */
    static void promise13_ofWindowsThatAreNotThere() {
        run("windows 16 16", "text c4:16", "pin 1 9", "pin 47 3").is("cost", 0).is("key 0", 0).is("ties", 2)
                .is("segments", 1).is("put 16 1 60", 1).is("key 1", 9).is("undo", 0).is("cost", 0).is("pin 1 NONE", 9);
        run("pin 0 9").is("cost", 0).is("ties", 1).is("segments", 0);
    }

    /** They can't contradict one another either. */
    static void promise13_thereThatCantBeIfTheyWere() {
        run("windows 16 16", "text c4:16", "pin 1 9", "pin 2 3").is("cost", 0)
                .is("text c4:16 -:32 c4:16", 2).is("cost", -5).is("text c4:16 -:16 c4:16", 2).is("key 1", 9)
                .is("key 2", 3);
    }

    /** "PINS stay whatever happens to NOTES". */
    static void promise13_theyStay() {
        run("windows 16 16", "text c4:16", "pin 0 9").does("drop 0", "undo", "shift 3", "undo", "put 0 1 1", "undo",
                "text ?", "load 0", "load 5", "text c4:16").is("key 0", 9).is("pin 0 NONE", 9);
    }

    // ---- tones

    /** "-2: the WINDOW". */
    static void promise14_noSuchWindow() {
        run().is("tones 0 0", -2).is("tones 0 NONE", -2).is("tones -1 0", -2);
        run("text c4:9").is("tones 1 0", 1).is("tones 2 0", -2).is("tones -1 0", -2).is("tones MIN 0", -2)
                .is("tones MAX 0", -2);
    }

    /** "of a TONE (NONE: of all)"; "-3: the TONE"; the WINDOW is told first. */
    static void promise14_tones0To11() {
        run("text (c4 b4):4").is("tones 0 0", 4).is("tones 0 11", 4).is("tones 0 NONE", 8).is("tones 0 12", -3)
                .is("tones 0 -2", -3).is("tones 0 MIN", -3).is("tones 0 MAX", -3).is("tones 1 12", -2)
                .is("tones 1 -2", -2).is("tones -1 -2", -2);
    }

    /** "TICKS of it for which NOTES of that TONE sound": a NOTE that ends where it begins is not in it. */
    static void promise14_whereAWindowBegins() {
        run("windows 8 8", "put 0 8 60", "put 8 1 62").is("tones 0 0", 8).is("tones 1 0", 0).does("put 0 9 61")
                .is("tones 1 1", 1).is("tones 0 1", 8);
    }

    /** Nor is one that begins where it ends. */
    static void promise14_whereAWindowEnds() {
        run("windows 8 8", "put 8 8 60").is("tones 0 0", 0).is("tones 1 0", 8).does("put 7 1 61")
                .is("tones 0 1", 1).is("tones 1 1", 0).does("put 7 2 63").is("tones 0 3", 1).is("tones 1 3", 1)
                .does("put 7 64 64").is("tones 0 4", 1).is("tones 1 4", 8).is("tones 7 4", 8).is("tones 8 4", 7)
                .is("tones 9 4", -2);
    }

    /** Between WINDOWS that are less WIDE than HOP nothing is counted. */
    static void promise14_betweenWindows() {
        run("windows 4 8", "put 4 4 60").is("count 1", 1).is("tones 0 0", 0).is("count 7", 1).is("chord 0", -1)
                .does("put 3 1 60").is("tones 0 0", 1).is("count 7", 0).does("put 8 1 60").is("tones 1 0", 1);
    }

    /** WINDOWS that are WIDER than HOP count twice. */
    static void promise14_windowsOverOneAnother() {
        run("windows 128 4", "put 8 4 60").is("count 1", 3).is("tones 0 0", 4).is("tones 1 0", 4)
                .is("tones 2 0", 4).does("put 127 2 62").is("tones 0 2", 1).is("tones 1 2", 2);
    }

    /** "all these NOTES together". */
    static void promise14_allNotesTogether() {
        run("windows 64 128").times(100, "put 0 64 60").is("tones 0 0", 6400).is("tones 0 NONE", 6400);
        run("windows 64 128", "put 0 8 60", "put 4 8 72", "put 4 8 0").is("tones 0 0", 24);
    }

    /** Up to THE END's very last TICK. */
    static void promise14_theLastTick() {
        run("windows 128 128", "put 511 1 59").is("count 1", 4).is("tones 3 11", 1).is("tones 3 NONE", 1)
                .is("tones 2 NONE", 0).is("count 7", 3);
    }

    // ---- match

    /** "(0 by 1, if SILENT)". */
    static void promise15_ofASilentWindow() {
        run("windows 16 16", "text -:16 c4:1").is("match 0 0 0", 0).is("match 0 23 0", 0).is("match 0 0 1", 1)
                .is("match 0 23 1", 1);
    }

    /** "in lowest terms". */
    static void promise15_inLowestTerms() {
        run("windows 128 128", "text c4:63 d4:64").is("match 0 0 0", 63 * 63 + 64 * 35).is("match 0 0 1", 127);
        run("windows 128 128", "text c4:64 d4:64").is("match 0 0 0", 49).is("match 0 0 1", 1)
                .is("match 0 1 0", 51).is("match 0 1 1", 2);
        run("windows 16 16", "text (c4 e4 g4):16").is("match 0 0 0", 53).is("match 0 0 1", 1)
                .is("match 0 16 0", 157).is("match 0 16 1", 3);
    }

    /** Nothing by something is 0 by 1. */
    static void promise15_ofWeights0() {
        flat("text c4:7").is("match 0 0 0", 0).is("match 0 0 1", 1).is("weight 0 0 1", 0).is("match 0 0 0", 1)
                .is("match 0 0 1", 1).is("match 0 1 0", 0).is("match 0 1 1", 1);
    }

    static void promise15_ofTheMost() {
        run("windows 64 128", "weight 0 0 99").times(100, "put 0 64 60").is("match 0 0 0", 99)
                .is("match 0 0 1", 1).is("fit 0 0", 9900);
    }

    /** "-2". */
    static void promise15_noSuch() {
        run().is("match 0 0 0", -2);
        run("text c4:1").is("match 0 0 0", 63).is("match 1 0 0", -2).is("match -1 0 0", -2).is("match 0 24 0", -2)
                .is("match 0 -1 0", -2).is("match 0 0 2", -2).is("match 0 0 -1", -2).is("match MIN 0 0", -2)
                .is("match MAX 0 0", -2).is("match 0 MIN 0", -2).is("match 0 MAX 0", -2).is("match 0 0 MIN", -2)
                .is("match 0 0 MAX", -2).is("match 0 23 1", 1);
    }

    /** "STEP 0 to 11 above the KEY's TONE": round at 12, each KEY by its own mode. */
    static void promise15_stepsGoRound() {
        for (int key = 0; key < 24; key++) {
            int[] weights = key < 12 ? MAJOR : MINOR;
            run("text c4:1 b4:1").is("match 0 " + key + " 0", half(weights, key, 0)).is("match 0 " + key + " 1",
                    half(weights, key, 1));
        }
    }

    /** MATCH of c and b, as long as one another. */
    private static int half(int[] weights, int key, int what) {
        int sum = weights[(24 - key) % 12] + weights[(35 - key) % 12];
        if (sum % 2 == 0) {
            return what == 0 ? sum / 2 : 1;
        }
        return what == 0 ? sum : 2;
    }

    // ---- fit

    /** "100 times MATCH, downwards". */
    static void promise16_downwards() {
        run("windows 128 128", "text c4:63 d4:64").is("fit 0 0", 4888);
        run("windows 16 16", "text (c4 e4 g4):16").is("fit 0 16", 5233).is("fit 0 0", 5300);
        flat("windows 128 128", "text c4:1 d4:64 d4:36", "weight 0 0 1").is("fit 0 0", 0).is("drop 2", 2)
                .is("fit 0 0", 1);
        flat("windows 128 128", "text c4:1 d4:64 d4:35", "weight 0 0 1").is("fit 0 0", 1);
    }

    static void promise16_ofASilentWindow() {
        run("windows 16 16", "text -:16 c4:1").is("fit 0 0", 0).is("fit 0 23", 0).is("fit 1 12", 6300);
    }

    /** "-2". */
    static void promise16_noSuch() {
        run().is("fit 0 0", -2);
        run("text c4:1").is("fit 0 23", 3200 - 500).is("fit 1 0", -2).is("fit -1 0", -2).is("fit 0 24", -2)
                .is("fit 0 -1", -2).is("fit MIN 0", -2).is("fit MAX 0", -2).is("fit 0 MIN", -2).is("fit 0 MAX", -2);
    }

    // ---- ranked

    /** "(k 0 to 23)"; "-2: the WINDOW; -3: k". */
    static void promise17_k0To23() {
        run().is("ranked 0 0", -2).is("ranked 0 24", -2);
        run("text c4:1").is("ranked 0 0", 0).is("ranked 0 23", 11).is("ranked 0 24", -3).is("ranked 0 -1", -3)
                .is("ranked 0 MIN", -3).is("ranked 0 MAX", -3).is("ranked 1 0", -2).is("ranked -1 0", -2)
                .is("ranked 1 24", -2).is("ranked -1 -1", -2).is("ranked MAX 24", -2);
    }

    /** "of like ones the least KEY". */
    static void promise17_ofLikeOnesTheLeastKey() {
        run("text c4:1").is("ranked 0 0", 0).is("ranked 0 1", 12);
        Run silent = run("windows 16 16", "text -:16 c4:1");
        Run level = flat("text c4:1");
        for (int k = 0; k < 24; k++) {
            silent.is("ranked 0 " + k, k);
            level.is("ranked 0 " + k, k);
        }
    }

    /** By FIT, not by MATCH: what is cut off downwards says nothing. */
    static void promise17_byFit() {
        flat("windows 128 128", "text c4:64 c4:63 d4:1", "weight 0 0 10", "weight 1 0 10", "weight 1 2 1")
                .is("match 0 0 0", 635).is("match 0 12 0", 1271).is("fit 0 0", 992).is("fit 0 12", 992)
                .is("ranked 0 0", 0).is("ranked 0 1", 12).does("weight 1 2 2").is("fit 0 12", 993)
                .is("ranked 0 0", 12).is("ranked 0 1", 0);
    }

    /** Each KEY once. */
    static void promise17_eachOnce() {
        Run x = run("text c4:3 d4:1 f#4:1");
        int seen = 0;
        for (int k = 0; k < 24; k++) {
            seen |= 1 << x.answer("ranked 0 " + k);
        }
        CHECKER.due("all KEYS", seen, (1 << 24) - 1);
    }

    // ---- overall

    /** "-3: k". */
    static void promise18_k0To23() {
        run("text c4:1").is("overall 0", 0).is("overall 1", 12).is("overall 23", 11).is("overall 24", -3)
                .is("overall -1", -3).is("overall MIN", -3).is("overall MAX", -3);
    }

    /** A piece without NOTES: as a SILENT WINDOW. */
    static void promise18_withoutNotes() {
        Run x = run();
        for (int k = 0; k < 24; k++) {
            x.is("overall " + k, k);
        }
        x.is("overall 24", -3).does("text d4:1").is("overall 0", 2).does("drop 0").is("overall 0", 0);
    }

    /** "of the whole piece, as one WINDOW from TICK 0 to THE END": whatever WINDOWS there are. */
    static void promise18_whateverWindowsThereAre() {
        run("windows 4 128", "put 4 64 62", "put 0 4 60").is("overall 0", 14);
        run("put 511 1 62").is("overall 0", 2).is("overall 1", 14);
        run("put 0 1 60", "put 448 64 62").is("count 1", 48).is("tones 47 NONE", 0).is("overall 0", 14);
        run("windows 4 4", "put 508 4 60", "put 440 64 67").is("overall 0", 7);
    }

    // ---- chord

    /** "NONE: it is SILENT; -2." */
    static void promise19_silentOrNotThere() {
        run().is("chord 0", -2);
        run("windows 16 16", "text -:16 c4:16").is("chord 0", -1).is("chord 1", 0).is("chord 2", -2)
                .is("chord -1", -2).is("chord MIN", -2).is("chord MAX", -2);
    }

    /** "of like ones the first": of one TONE alone. */
    static void promise19_ofLikeOnesTheFirst() {
        int[] first = {0, 3, 6, 1, 0, 3, 2, 0, 3, 6, 9, 12};
        for (int tone = 0; tone < 12; tone++) {
            run("put 0 1 " + tone).is("chord 0", first[tone]);
        }
        run("text (c4 e4 g#4):4").is("chord 0", 0).is("shift 4", 3).is("chord 0", 0);
        run("text (c4 e4 g4 b4 a4):4").is("chord 0", 0).does("put 0 1 69").is("chord 0", 28).does("put 0 1 67")
                .is("chord 0", 0);
    }

    /** What sounds in the next WINDOW says nothing. */
    static void promise19_ofThisWindowAlone() {
        run("windows 16 16", "text (e4 g4):16 (c4 c5):16 -:16 c4:16").row("chord", 0, 0, -1, 0, -2);
        run("windows 16 16", "text (e4 a4):16 c4:16 (f4 g#4):16").row("chord", 27, 0, 3);
        run("windows 16 16", "text (e4 g4):16 (c4 c5):16").is("chord 0", 0).does("shift 0").is("chord 0", 0);
    }

    /** TONES of TRIADS go round at 12. */
    static void promise19_eachTriad() {
        int[][] above = {{4, 7}, {3, 7}, {3, 6}};
        for (int triad = 0; triad < 36; triad++) {
            int root = triad / 3;
            run("put 0 8 " + (60 + root), "put 0 8 " + (root + above[triad % 3][0]) % 12,
                    "put 0 8 " + (root + above[triad % 3][1]) % 12).is("chord 0", triad);
        }
    }

    // ---- distance

    /** "-2". */
    static void promise20_noSuchKey() {
        run().is("distance 0 23", 110).is("distance 23 0", 110).is("distance -1 0", -2).is("distance 24 0", -2)
                .is("distance 0 -1", -2).is("distance 0 24", -2).is("distance MIN 0", -2).is("distance 0 MAX", -2)
                .is("distance MAX 0", -2).is("distance 0 MIN", -2);
    }

    /** "a fifth up and a fifth down (TONE 7 more, 5 more, modulo 12; of its mode)". */
    static void promise20_fifthsGoRound() {
        Run x = run("net 1 999 999 1");
        for (int key = 0; key < 24; key++) {
            int mode = key / 12 * 12;
            x.is("distance " + key + " " + (mode + (key + 7) % 12), 1);
            x.is("distance " + key + " " + (mode + (key + 5) % 12), 1);
            x.is("distance " + key + " " + (mode + (key + 6) % 12), 6);
            x.is("distance " + key + " " + key, 0);
        }
    }

    /** "major to minor on TONE 9 more; minor to major on TONE 3 more". */
    static void promise20_relativesGoRound() {
        Run x = run("net 999 1 999 1");
        for (int tone = 0; tone < 12; tone++) {
            x.is("distance " + tone + " " + (12 + (tone + 9) % 12), 1);
            x.is("distance " + (12 + tone) + " " + (tone + 3) % 12, 1);
            x.is("distance " + tone + " " + (12 + (tone + 3) % 12), 999 + 1 + 999);
        }
    }

    /** "the other mode on its TONE". */
    static void promise20_parallels() {
        Run x = run("net 999 999 1 1");
        for (int tone = 0; tone < 12; tone++) {
            x.is("distance " + tone + " " + (12 + tone), 1).is("distance " + (12 + tone) + " " + tone, 1);
        }
    }

    /** "the least sum along THE NET": by ways round. */
    static void promise20_theLeastSum() {
        run("net 1 10 999 1").is("distance 0 12", 13).is("distance 12 0", 13);
        run("net 999 1 1 1").is("distance 0 7", 1 + 1 + 999 - 1 - 1).is("distance 0 6", 4).is("distance 0 3", 2);
        run("net 0 0 0 100").is("distance 0 6", 0).is("distance 0 18", 0);
    }

    static void promise20_theDearest() {
        run("net 999 999 999 100").is("distance 0 6", 4 * 99900).is("distance 0 18", 3 * 99900)
                .is("distance 0 0", 0);
        run("net 999 999 0 100").is("distance 0 6", 2 * 99900);
        run("net 999 999 999 0").is("distance 0 6", 0);
    }

    // ---- way

    /** "-2: a KEY; -3: k is below 0"; "all these ahead of NONE". */
    static void promise21_noSuch() {
        run().is("way -1 0 0", -2).is("way 24 0 0", -2).is("way 0 -1 0", -2).is("way 0 24 0", -2)
                .is("way 0 7 -1", -3).is("way 0 7 MIN", -3).is("way 24 0 -1", -2).is("way 0 24 -1", -2)
                .is("way MIN 0 0", -2).is("way 0 MAX 0", -2).is("way 0 0 -1", -3);
    }

    /** "(from 0, the first KEY itself)"; "NONE: it has not so many". */
    static void promise21_notSoMany() {
        run().row("way 5 5", 5, -1, -1).row("way 0 7", 0, 7, -1).row("way 23 11", 23, 11, -1).is("way 5 5 23", -1)
                .is("way 5 5 24", -1).is("way 5 5 MAX", -1).is("way 0 7 MAX", -1);
    }

    /** The longest of all. */
    static void promise21_theLongest() {
        run("net 1 999 999 1").row("way 0 6", 0, 5, 10, 3, 8, 1, 6, -1).row("way 6 0", 6, 1, 8, 3, 10, 5, 0, -1)
                .row("way 12 18", 12, 17, 22, 15, 20, 13, 18, -1);
        run("net 999 1 0 1").is("way 0 1 0", 0).is("way 0 1 30", -1);
    }

    /** "of like ones that of the fewest KEYS, of these the first (KEYS as numbers)". */
    static void promise21_theFewestThenTheFirst() {
        run("net 0 0 0 1").row("way 0 12", 0, 12, -1).row("way 0 14", 0, 5, 14, -1).row("way 0 6", 0, 12, 3, 15, 6, -1)
                .row("way 0 3", 0, 12, 3, -1);
        run("net 0 0 999 1").row("way 0 12", 0, 5, 10, 3, 12, -1);
        run("net 10 20 30 1").row("way 0 12", 0, 12, -1).row("way 12 0", 12, 0, -1);
    }

    /** By the sum, whatever FACTOR is. */
    static void promise21_whateverFactorIs() {
        run("net 1 999 999 0").row("way 0 12", 0, 12, -1).row("way 0 2", 0, 7, 2, -1);
        run("net 1 10 999 0").row("way 0 12", 0, 5, 10, 3, 12, -1);
        run("net 1 10 999 100").row("way 0 12", 0, 5, 10, 3, 12, -1);
    }
}
