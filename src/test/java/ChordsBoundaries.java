/** PIVOTS, ROMANS, what sounds and what is told of KEYS: promises 33 to 43. */
final class ChordsBoundaries extends Boundaries {
    private static final int[][] STEPS = {{0, 2, 4, 5, 7, 9, 11}, {0, 2, 3, 5, 7, 8, 10}};
    private static final int[][] KINDS = {{0, 1, 1, 0, 0, 1, 2}, {1, 2, 0, 1, 1, 0, 0}};
    private static final String FIRST = "(c4 e4 g4):16";
    private static final String FOURTH = "(f4 a4 c5):16";
    private static final String FIFTH = "(g4 b4 d5):16";
    private static final String REST = "-:16";

    private ChordsBoundaries() {
    }

    /** All windows in one KEY. */
    private static Run inKey(int key, String... parts) {
        Run x = blocks(String.join(" ", parts));
        int windows = x.answer("count 1");
        for (int window = 0; window < windows; window++) {
            x.does("pin " + window + " " + key);
        }
        return x;
    }

    /** Two windows in which nothing sounds: the notes lie between them. */
    private static Run silent() {
        return run("windows 4 8", "put 4 4 60", "put 12 4 60");
    }

    // ---- pivot

    /** "-5; -2: no such MOVE, what". */
    static void promise33_noSuchMove() {
        run().is("pivot 0 0", -2);
        blocks(FIRST).is("pivot 0 0", -2);
        blocks(FIRST + FIFTH, "pin 0 0", "pin 1 7").is("pivot 0 0", 0).is("pivot 1 0", -2).is("pivot -1 0", -2)
                .is("pivot MIN 0", -2).is("pivot MAX 0", -2);
        pathless().is("pivot 0 0", -5).is("pivot -1 0", -5).is("pivot 9 9", -5).is("pivot 0 4", -5);
    }

    /** "-2: what"; "all these ahead of NONE". */
    static void promise33_noSuchWhat() {
        blocks(FIRST + FIFTH, "pin 0 0", "pin 1 7").row("pivot 0", 0, 1, 4, 16).is("pivot 0 4", -2)
                .is("pivot 0 -1", -2).is("pivot 0 MIN", -2).is("pivot 0 MAX", -2);
        blocks("c4:16 d4:16", "pin 0 0", "pin 1 6").row("pivot 0", -1, -1, -1, -1).is("pivot 0 4", -2)
                .is("pivot 0 -1", -2).is("pivot 1 0", -2);
    }

    /** "None, if there is no such TRIAD". */
    static void promise33_noSuchTriad() {
        blocks("(c4d4e4f4g4a4):16 (c#4d#4f#4g#4a#4b4):16", "pin 0 0", "pin 1 6").row("pivot 0", -1, -1, -1, -1);
    }

    /** "or all have SOUND 0". */
    static void promise33_allHaveSound0() {
        blocks("(c4 e4):16 d4:1", "pin 0 0", "pin 1 7").row("pivot 0", -1, -1, -1, -1).does("put 16 1 67")
                .row("pivot 0", 0, 1, 4, 1);
    }

    /** "the least, of its three TONES, of COUNTS in both WINDOWS together". */
    static void promise33_inBothWindowsTogether() {
        blocks("c4:7 e4:9 g4:5 e4:11", "pin 0 0", "pin 1 7").row("pivot 0", 0, 1, 4, 5);
        blocks("(c4 e4):16 -:16 (c4 g4):16", "pin 0 0", "pin 2 7").is("pivot 0 0", -1).does("put 32 3 64")
                .row("pivot 0", 0, 1, 4, 3);
        blocks(FIRST + FIRST, "pin 0 0", "pin 1 7").is("pivot 0 3", 32);
    }

    /** The WINDOWS on both sides of the MOVE and no others. */
    static void promise33_onlyWhereTheSegmentsMeet() {
        blocks(FIRST + "c4:16" + "d4:16" + FIRST, "pin 0 0", "pin 1 0", "pin 2 7", "pin 3 7").is("segments", 2)
                .is("pivot 0 0", -1);
        blocks("c4:16" + FIRST + "d4:16 d4:16", "pin 0 0", "pin 1 0", "pin 2 7", "pin 3 7").is("pivot 0 0", 0);
        blocks("(e4 g4):16 (e4 g4):16 c4:16", "pin 0 0", "pin 1 7", "pin 2 7").is("pivot 0 0", -1);
    }

    /** "of like ones the first"; the greatest ahead of it. */
    static void promise33_ofLikeOnesTheFirst() {
        blocks("(c4 e4 g4 b4):16 (c4 e4 g4 b4):16", "pin 0 0", "pin 1 7").row("pivot 0", 0, 1, 4, 32)
                .does("put 0 1 64", "put 0 1 67", "put 0 1 71").row("pivot 0", 13, 3, 6, 33)
                .does("put 0 1 60").row("pivot 0", 0, 1, 4, 33);
    }

    /** TONES go round at 12. */
    static void promise33_roundAt12() {
        blocks("(b4 d#4 f#4):16 (b4 d#4 f#4):16", "pin 0 11", "pin 1 6").row("pivot 0", 33, 1, 4, 32);
        blocks("(b4 d#4 f#4):16 (b4 d#4 f#4):16", "pin 0 16", "pin 1 11").row("pivot 0", 33, 5, 1, 32);
    }

    /** "its DEGREE 5 may be of kind 0, too": of either. */
    static void promise33_fifthsOfMinor() {
        blocks("(e4 g#4 b4):16 (e4 g#4 b4):16", "pin 0 21", "pin 1 4").row("pivot 0", 12, 5, 1, 32);
        blocks("(e4 g4 b4):16 (e4 g4 b4):16", "pin 0 21", "pin 1 16").row("pivot 0", 13, 5, 1, 32);
        blocks("(g4 b!4 d5):16 (g4 b!4 d5):16", "pin 0 0", "pin 1 10").is("pivot 0 0", -1);
    }

    // ---- roman

    /** "NONE: its CHORD is no DEGREE, it is SILENT; -2; -5." */
    static void promise34_none() {
        inKey(0, FIRST, REST, FIFTH, "(c4 e!4 g4):16", "(c#4 f4 g#4):16").row("roman", 1, -1, 5, -1, -1, -2)
                .is("roman -1", -2).is("roman MIN", -2).is("roman MAX", -2);
    }

    static void promise34_windowAheadOfPath() {
        run().is("roman 0", -2);
        pathless().is("roman 0", -5).is("roman 1", -5).is("roman 3", -2).is("roman -1", -2);
    }

    /** Both kinds of the fifth of minor, one of major. */
    static void promise34_fifths() {
        inKey(21, "(e4 g4 b4):16", "(e4 g#4 b4):16", "(e4 g4 b!4):16").row("roman", 5, 5, -1);
        inKey(0, "(g4 b4 d5):16", "(g4 b!4 d5):16", "(g4 b!4 d!5):16").row("roman", 5, -1, -1);
    }

    // ---- outside

    static void promise35_withoutWindows() {
        run().is("outside", 0);
        silent().is("outside", 0);
        pathless().is("outside", -5);
    }

    /** "WINDOWS that are not SILENT". */
    static void promise35_notSilentOnes() {
        inKey(0, "(c#4 f4 g#4):16", REST, "(c#4 f4 g#4):16", FIRST).is("outside", 2).does("drop 0", "drop 0", "drop 0")
                .is("outside", 1).does("pin 2 1").is("outside", 0);
    }

    // ---- progression

    /** "k NONE: how many"; "-3: k"; "NONE: not so many". */
    static void promise36_k() {
        inKey(0, FIRST, FOURTH).is("progression NONE", 2).is("progression 0", 0).is("progression 1", 15)
                .is("progression 2", -1).is("progression MAX", -1).is("progression -2", -3)
                .is("progression MIN", -3);
    }

    static void promise36_withoutWindows() {
        run().is("progression NONE", 0).is("progression 0", -1).is("progression -2", -3);
        silent().is("progression NONE", 0).is("progression 0", -1);
    }

    /** "like ones side by side (SILENT ones aside) told once". */
    static void promise36_likeOnesSideBySide() {
        blocks(FIRST + FIRST + REST + FIRST + FIFTH + REST + FIRST).is("progression NONE", 3)
                .row("progression", 0, 21, 0, -1);
        blocks(REST + FIRST).is("progression NONE", 1).row("progression", 0, -1);
    }

    static void promise36_ofAll48() {
        run("windows 4 4", "text " + "c4:4f#4:4".repeat(24)).is("progression NONE", 48).is("progression 47", 2)
                .is("progression 46", 0).is("progression 48", -1).does("put 192 4 60").is("progression NONE", 48);
    }

    /** It needs no PATH. */
    static void promise36_withoutAPath() {
        pathless().is("progression NONE", 1).is("progression 0", 0).is("progression 1", -1);
    }

    // ---- confirmed

    /** "-5; -2: the SEGMENT". */
    static void promise37_noSuchSegment() {
        run().is("confirmed 0", -2);
        inKey(0, FIFTH, FIRST).is("confirmed 0", 1).is("confirmed 1", -2).is("confirmed -1", -2)
                .is("confirmed MIN", -2).is("confirmed MAX", -2);
        pathless().is("confirmed 0", -5).is("confirmed -1", -5).is("confirmed 9", -5);
    }

    /** "NONE: it isn't": nothing is ahead of it, or it isn't of ROMAN 5. */
    static void promise37_itIsnt() {
        inKey(0, FIRST).is("confirmed 0", -1);
        inKey(0, FIRST, FIRST).is("confirmed 0", -1);
        inKey(0, FIFTH).is("confirmed 0", -1);
        inKey(0, FOURTH, FIRST).is("confirmed 0", -1);
        inKey(0, FIFTH, FOURTH, FIRST).is("confirmed 0", -1);
        inKey(0, FIRST, FIFTH).is("confirmed 0", -1);
        silent().is("confirmed 0", -1);
    }

    /** "the last one in it that is not SILENT and has another CHORD". */
    static void promise37_theLastWithAnotherChord() {
        inKey(0, FIFTH, REST, REST, FIRST).is("confirmed 0", 3);
        inKey(0, FOURTH, FIFTH, FIRST, FIRST).is("confirmed 0", 2);
        inKey(0, FIRST, REST, FIRST, FIFTH, REST, FIRST).is("confirmed 0", 5);
        inKey(21, "(e4 g#4 b4):16", "(e4 g4 b4):16", "(a4 c5 e5):16").is("confirmed 0", 2);
        inKey(0, FIFTH, "(g4 b!4 d5):16", FIRST).is("confirmed 0", -1);
    }

    /** "the first of its WINDOWS": each SEGMENT for itself, what is ahead of it says nothing. */
    static void promise37_inItself() {
        blocks(FIFTH + FIRST, "pin 0 7", "pin 1 0").is("confirmed 0", -1).is("confirmed 1", -1);
        blocks(FIFTH + FIFTH + FIRST, "pin 0 7", "pin 1 0", "pin 2 0").is("confirmed 1", 2);
        blocks(FIRST + FIFTH + FIRST, "pin 0 5", "pin 1 0", "pin 2 0").is("confirmed 0", -1).is("confirmed 1", 2);
        inKey(0, FIFTH, FIRST, FIFTH, FIRST).is("confirmed 0", 1);
        blocks(FIFTH + FIRST + FIFTH + FIRST, "pin 0 0", "pin 1 7", "pin 2 0", "pin 3 0").is("confirmed 0", -1)
                .is("confirmed 1", -1).is("confirmed 2", 3);
    }

    static void promise37_atTheLastOf48() {
        Run x = run("windows 4 4", "text " + "f4:4".repeat(46) + "(g4b4d5):4(c4e4g4):4");
        for (int window = 0; window < 48; window++) {
            x.does("pin " + window + " 0");
        }
        x.is("confirmed 0", 47).does("put 192 4 60").is("confirmed 0", 47);
    }

    // ---- learnt

    /** "-2: mode, STEP; -5". */
    static void promise38_noSuch() {
        run().is("learnt -1 0", -2).is("learnt 2 0", -2).is("learnt 0 -1", -2).is("learnt 0 12", -2)
                .is("learnt 1 12", -2).is("learnt MIN 0", -2).is("learnt MAX 0", -2).is("learnt 0 MIN", -2)
                .is("learnt 0 MAX", -2);
        pathless().is("learnt 0 0", -5).is("learnt 1 11", -5).is("learnt 2 0", -2).is("learnt -1 0", -2)
                .is("learnt 0 12", -2).is("learnt 0 -1", -2);
    }

    /** "NONE: no such WINDOWS, or all are SILENT". */
    static void promise38_none() {
        run().is("learnt 0 0", -1).is("learnt 1 0", -1);
        inKey(0, "c4:16").is("learnt 0 0", 100).is("learnt 1 0", -1).does("pin 0 12").is("learnt 0 0", -1)
                .is("learnt 1 0", 100);
        blocks("-:16 c4:16", "pin 0 12", "pin 1 0").is("learnt 1 0", -1).is("learnt 0 0", 100)
                .does("put 0 1 60").is("learnt 1 0", 100);
        silent().is("learnt 0 0", -1).is("learnt 1 0", -1);
    }

    /** "times 100, by all their COUNTS, downwards"; 0 of what doesn't sound. */
    static void promise38_downwards() {
        inKey(0, "(c4 e4 g4):16").is("learnt 0 0", 33).is("learnt 0 4", 33).is("learnt 0 1", 0);
        run("windows 128 128", "text c4:64 c4:36 d4:1", "pin 0 0").is("learnt 0 2", 0).is("learnt 0 0", 99);
        run("windows 128 128", "text c4:64 c4:35 d4:1", "pin 0 0").is("learnt 0 2", 1).is("learnt 0 0", 99);
    }

    /** "the TONE that is a STEP above that KEY's": round at 12. */
    static void promise38_stepsGoRound() {
        for (int key = 0; key < 24; key++) {
            int mode = key / 12;
            inKey(key, "c4:16").is("learnt " + mode + " " + (24 - key) % 12, 100)
                    .is("learnt " + mode + " " + (25 - key) % 12, 0).is("learnt " + (1 - mode) + " 0", -1);
        }
        blocks("d4:16 b4:16", "pin 0 2", "pin 1 11").is("learnt 0 0", 100);
    }

    // ---- foreign

    /** "-2". */
    static void promise39_noSuch() {
        run().is("foreign 0 0", -2);
        blocks("c4:16").is("foreign 0 23", 16).is("foreign 0 24", -2).is("foreign 0 -1", -2).is("foreign 1 0", -2)
                .is("foreign -1 0", -2).is("foreign MIN 0", -2).is("foreign MAX 0", -2).is("foreign 0 MIN", -2)
                .is("foreign 0 MAX", -2);
    }

    /** "TONES on none of the STEPS of its DEGREES": round at 12. */
    static void promise39_eachToneInEachKey() {
        for (int tone = 0; tone < 12; tone++) {
            Run x = run("put 0 4 " + tone);
            for (int key = 0; key < 24; key++) {
                int step = (tone + 24 - key) % 12;
                boolean own = false;
                for (int due : STEPS[key / 12]) {
                    own |= due == step;
                }
                x.is("foreign 0 " + key, own ? 0 : 4);
            }
        }
    }

    /** A SILENT WINDOW has none; it needs no PATH. */
    static void promise39_silentOrWithoutAPath() {
        silent().is("foreign 0 1", 0).is("foreign 1 23", 0);
        pathless().is("foreign 0 1", 0).is("foreign 0 2", 16).is("foreign 1 2", 0).is("foreign 3 2", -2);
    }

    /** All of them: just those of the rest are left. */
    static void promise39_allTones() {
        Run x = run("text (c4c#4d4d#4e4f4):1(f#4g4g#4a4a#4b4):1");
        for (int key = 0; key < 24; key++) {
            x.is("foreign 0 " + key, 5);
        }
    }

    // ---- close

    /** "NONE: all WINDOWS are SILENT, there are none; -5." */
    static void promise40_none() {
        run().is("close", -1);
        silent().is("close", -1).does("pin 0 0", "pin 1 5").is("close", -5).does("pin 1 0").is("close", -1)
                .does("put 0 1 60").is("close", 0);
        pathless().is("close", -5);
        run("put 0 1 60").is("close", 0).does("drop 0").is("close", -1);
    }

    /** "the last WINDOW that isn't SILENT". */
    static void promise40_silentOnesAtTheEnd() {
        Run x = run("windows 4 8", "text (g4b4d5):4-:4(c4e4g4):4-:8c4:4");
        for (int window = 0; window < 3; window++) {
            x.does("pin " + window + " 0");
        }
        x.is("count 1", 3).is("chord 2", -1).is("close", 2).does("drop 3", "drop 3", "drop 3").is("chord 1", -1)
                .is("close", 1).does("drop 0", "drop 0", "drop 0").is("close", -1);
    }

    /** "that of the next one ahead that isn't SILENT and has another CHORD". */
    static void promise40_full() {
        inKey(0, FIFTH, FIRST).is("close", 2);
        inKey(0, FIFTH, REST, FIRST, REST, FIRST).is("close", 2);
        inKey(0, FIRST).is("close", 0);
        inKey(0, FIRST, FIRST).is("close", 0);
        inKey(0, REST, FIRST).is("close", 0);
        inKey(0, FIFTH, FOURTH, FIRST).is("close", 0);
        inKey(0, FOURTH, FIFTH, FIRST).is("close", 2);
        inKey(0, FIFTH, FIRST, FOURTH).is("close", 0);
        inKey(0, FIFTH, "(c4 e!4 g4):16").is("close", 0);
    }

    /** "(of either kind)". */
    static void promise40_fullInMinor() {
        inKey(21, "(e4 g#4 b4):16", "(a4 c5 e5):16").is("close", 2);
        inKey(21, "(e4 g4 b4):16", "(a4 c5 e5):16").is("close", 2);
        inKey(21, "(e4 g4 b!4):16", "(a4 c5 e5):16").is("close", 0);
        inKey(9, "(e4 g4 b4):16", "(a4 c#5 e5):16").is("close", 0);
    }

    /** By the KEY of the last of them, whatever that of the other is. */
    static void promise40_byTheLastKey() {
        blocks(FIFTH + FIRST, "pin 0 7", "pin 1 0").is("close", 2);
        blocks(FIFTH + FIRST, "pin 0 0", "pin 1 5").is("close", 1);
        blocks(FIFTH + FIRST, "pin 0 0", "pin 1 7").is("close", 0);
    }

    /** "HALF: the first of these is DEGREE 5 (of either kind)". */
    static void promise40_half() {
        inKey(0, FIRST, FIFTH).is("close", 1);
        inKey(0, FIFTH).is("close", 1);
        inKey(0, "(g4 b!4 d5):16").is("close", 0);
        inKey(21, "(e4 g#4 b4):16").is("close", 1);
        inKey(21, "(e4 g4 b4):16").is("close", 1);
    }

    // ---- degree

    /** "a TRIAD (0 to 35)"; "-2". */
    static void promise41_noSuch() {
        run().is("degree 0 0", 1).is("degree 35 0", 7).is("degree 36 0", -2).is("degree -1 0", -2)
                .is("degree MIN 0", -2).is("degree MAX 0", -2).is("degree 0 24", -2).is("degree 0 -1", -2)
                .is("degree 0 MIN", -2).is("degree 0 MAX", -2).is("degree 0 23", -1).is("degree 36 24", -2);
    }

    /** "NONE: it is none": each TRIAD in each KEY, round at 12. */
    static void promise41_eachInEach() {
        for (int key = 0; key < 24; key++) {
            int[] due = new int[36];
            java.util.Arrays.fill(due, -1);
            int mode = key / 12;
            for (int i = 0; i < 7; i++) {
                due[(key + STEPS[mode][i]) % 12 * 3 + KINDS[mode][i]] = i + 1;
            }
            if (mode == 1) {
                due[(key + 7) % 12 * 3] = 5;
            }
            Run x = run();
            for (int triad = 0; triad < 36; triad++) {
                x.is("degree " + triad + " " + key, due[triad]);
            }
        }
    }

    // ---- name

    /** "-2; -3: i is below 0"; "NONE: not so many". */
    static void promise42_noSuch() {
        run().is("name -1 0", -2).is("name 24 0", -2).is("name MIN 0", -2).is("name MAX 0", -2).is("name 0 -1", -3)
                .is("name 23 MIN", -3).is("name 24 -1", -2).is("name -1 -1", -2).is("name 0 MAX", -1)
                .is("name 13 MAX", -1);
    }

    /** Names of one, two and three bytes, each to its end. */
    static void promise42_toItsEnd() {
        String[] names = {"c", "c#", "d", "d#", "e", "f", "f#", "g", "g#", "a", "a#", "b"};
        for (int key = 0; key < 24; key++) {
            String name = names[key % 12] + (key < 12 ? "" : "m");
            for (int i = 0; i < 5; i++) {
                run().is("name " + key + " " + i, i < name.length() ? name.charAt(i) : -1);
            }
        }
    }

    // ---- count

    /** "NONE for others". */
    static void promise43_noneForOthers() {
        run().is("count -1", -1).is("count 12", -1).is("count MIN", -1).is("count MAX", -1)
                .row("count", 0, 0, 0, 0, 0, 16, 8, 0, 40, 30, 60, 1, -1);
    }

    /** The most of each. */
    static void promise43_theMost() {
        Run x = run("windows 128 4", "net 999 999 999 100").times(100, "put 448 64 60").times(35, "feed 0 0 0 0 0");
        x.row("count", 100, 48, 512, 10, 700, 128, 4, 48, 999, 999, 999, 100, -1);
    }

    /** "THE END: the greatest TICK at which a NOTE ends (0 without)". */
    static void promise43_theEnd() {
        run().is("count 2", 0).does("put 0 64 60").is("count 2", 64).does("put 63 1 60").is("count 2", 64)
                .does("put 63 2 60").is("count 2", 65).does("put 511 1 60").is("count 2", 512).does("drop 3")
                .is("count 2", 65).does("drop 2").is("count 2", 64).does("drop 0").is("count 2", 64)
                .does("drop 0").is("count 2", 0).does("undo").is("count 2", 64);
        run("text c4:5 -:9").is("count 2", 5);
    }

    /** "SILENT: all COUNTS are 0." */
    static void promise43_silentWindows() {
        run().is("count 7", 0);
        silent().is("count 7", 2).does("put 3 1 60").is("count 7", 1).does("put 8 1 60").is("count 7", 0);
        blocks("-:16 c4:1 -:16 c4:1").is("count 1", 3).is("count 7", 1).does("drop 0").is("count 7", 2)
                .does("drop 0").is("count 7", 0);
    }

    /** ACTS and bytes as they come and go. */
    static void promise43_actsAndBytes() {
        run().times(10, "shift 0").is("count 3", 10).does("shift 0").is("count 3", 10).does("undo")
                .is("count 3", 9).does("load 0").is("count 3", 0).does("feed 0 0 0 0 0").is("count 4", 20)
                .does("load 21").is("count 4", 20).does("load 20").is("count 4", 0);
    }
}
