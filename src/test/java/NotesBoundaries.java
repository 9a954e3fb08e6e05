/** NOTES, THE END and ACTS: promises 1 and 5 to 9. */
final class NotesBoundaries extends Boundaries {
    private NotesBoundaries() {
    }

    /** A hundred of them, ten ticks after another, all like. */
    private static Run full() {
        return run("put 0 5 60").times(99, "put 10 5 60");
    }

    // ---- "KeyPath(): No NOTES."

    static void promise01_noNotes() {
        run().is("count 0", 0).is("count 1", 0).is("count 2", 0).is("count 3", 0).is("count 4", 0).is("count 7", 0)
                .is("note 0 0", -2).is("drop 0", -2).is("undo", -5).is("tones 0 0", -2).is("load 1", -3);
    }

    static void promise01_whatOtherObjectsHoldSaysNothing() {
        busyTape();
        run().is("count 0", 0).is("count 5", 16).is("count 6", 8).is("count 8", 40).is("count 9", 30)
                .is("count 10", 60).is("count 11", 1).is("count 4", 0).is("weight 1 3 0", 54).is("pin 1 NONE", -1)
                .is("fault 0", 0).is("fault 1", -1);
    }

    // ---- put

    /** "each begins at a TICK (0 to 511)"; "-3: its TICK". */
    static void promise05_tickFrom0To511() {
        run().is("put 0 1 60", 0).is("put 511 1 60", 1).is("note 0 0", 0).is("note 1 0", 511);
        busyTape().refuses("put -1 1 60", -3).refuses("put 512 1 60", -3);
        run().refuses("put MIN 1 60", -3).refuses("put MAX 1 60", -3).refuses("put -1 64 60", -3);
    }

    /** "is LONG 1 to 64 TICKS"; "-3: LONG". */
    static void promise05_longFrom1To64() {
        run().is("put 0 1 60", 0).is("put 0 64 60", 1).is("note 0 1", 1).is("note 1 1", 64);
        busyTape().refuses("put 0 0 60", -3).refuses("put 0 65 60", -3);
        run().refuses("put 0 -1 60", -3).refuses("put 0 MIN 60", -3).refuses("put 0 MAX 60", -3)
                .refuses("put 511 MAX 60", -3);
    }

    /** "PITCH 0 to 127"; "-3: PITCH". */
    static void promise05_pitchFrom0To127() {
        run().is("put 0 1 0", 0).is("put 0 1 127", 1).is("note 0 2", 0).is("note 1 2", 127);
        busyTape().refuses("put 0 1 -1", -3).refuses("put 0 1 128", -3);
        run().refuses("put 0 1 MIN", -3).refuses("put 0 1 MAX", -3);
    }

    /** "not beyond TICK 512"; "-3: it would go beyond TICK 512". */
    static void promise05_notBeyondTick512() {
        run().is("put 448 64 60", 0).is("put 449 63 60", 1).is("put 510 2 60", 2).is("put 511 1 60", 3)
                .is("count 2", 512);
        busyTape().refuses("put 449 64 60", -3).refuses("put 450 63 60", -3).refuses("put 511 2 60", -3)
                .refuses("put 511 64 60", -3);
    }

    /** "NOTES, at most 100"; "-4". */
    static void promise05_aHundredNotes() {
        run().times(99, "put 0 1 60").is("put 0 1 60", 99).is("count 0", 100).is("put 0 1 60", -4);
        full().refuses("put 0 1 60", -4).refuses("put 511 1 127", -4);
    }

    static void promise05_aHundredByATextToo() {
        Run x = run("text " + "(c4d4e4f4g4a4):1".repeat(16) + "(c4d4e4):1");
        x.is("count 0", 99).is("put 511 1 0", 99).is("count 0", 100).is("count 3", 1).refuses("put 0 1 60", -4);
    }

    static void promise05_roomAgainOnceOneIsGone() {
        full().is("drop 0", 99).is("put 0 1 1", 0).is("put 0 1 1", -4).is("undo", 9).is("count 0", 99)
                .is("put 511 1 1", 99).is("put 511 1 1", -4);
        full().is("text c4:1", 1).is("put 1 1 1", 1);
    }

    /** "Of several that which the call tells first": -3 ahead of -4. */
    static void promise05_theNumberAheadOfTooMany() {
        full().is("put -1 1 60", -3).is("put 512 1 60", -3).is("put 0 0 60", -3).is("put 0 65 60", -3)
                .is("put 0 1 -1", -3).is("put 0 1 128", -3).is("put 511 2 60", -3).is("put 511 1 60", -4);
    }

    /** "numbered by where they begin". */
    static void promise05_numberedByTick() {
        run("put 10 1 60").is("put 9 64 127", 0).is("put 11 1 0", 2).is("put 10 1 61", 2).is("put 0 1 127", 0)
                .is("put 511 1 0", 5).is("note 0 0", 0).is("note 1 0", 9).is("note 2 0", 10).is("note 4 0", 11);
    }

    /** "of like ones by PITCH". */
    static void promise05_ofLikeTicksByPitch() {
        run("put 10 9 60").is("put 10 64 59", 0).is("put 10 1 61", 2).is("put 10 1 0", 0).is("put 10 64 127", 4)
                .is("note 0 2", 0).is("note 1 2", 59).is("note 2 2", 60).is("note 3 2", 61).is("note 4 2", 127);
    }

    /** "then by how LONG". */
    static void promise05_ofLikePitchesByLong() {
        run("put 10 9 60").is("put 10 8 60", 0).is("put 10 10 60", 2).is("put 10 1 60", 0).is("put 10 64 60", 4)
                .is("note 0 1", 1).is("note 1 1", 8).is("note 2 1", 9).is("note 3 1", 10).is("note 4 1", 64);
    }

    /** "then as they came". */
    static void promise05_thenAsTheyCame() {
        run("put 10 9 60").is("put 10 9 60", 1).is("put 10 9 60", 2).is("put 10 10 60", 3).is("put 10 9 60", 3)
                .is("put 9 9 60", 0).is("put 10 9 60", 5);
    }

    static void promise05_amongTheNotesOfAText() {
        run("text (c4 g4):4 e4:4").is("put 0 4 64", 1).is("put 4 3 64", 3).is("put 4 5 64", 5).is("count 0", 6);
    }

    // ---- drop

    /** "-2". */
    static void promise06_noSuchNote() {
        run().refuses("drop 0", -2).refuses("drop -1", -2).refuses("drop MIN", -2).refuses("drop MAX", -2);
        busyTape().refuses("drop -1", -2).refuses("drop 9", -2).is("drop 8", 8).refuses("drop 8", -2);
        full().refuses("drop 100", -2).is("drop 99", 99);
    }

    static void promise06_theFirstAndTheLast() {
        run("text c4:1 d4:1 e4:1 f4:1").is("drop 0", 3).is("note 0 2", 62).is("note 0 0", 1).is("drop 2", 2)
                .is("note 1 2", 64).is("note 2 2", -2);
    }

    /** What is there after the last NOTE went. */
    static void promise06_afterTheLastNote() {
        run("put 3 4 60").is("count 1", 1).is("drop 0", 0).is("count 0", 0).is("count 1", 0).is("count 2", 0)
                .is("count 3", 2).is("note 0 0", -2).is("drop 0", -2).is("key 0", -2).is("cost", 0).is("ties", 1)
                .is("close", -1).is("overall 0", 0).is("put 0 1 1", 0);
    }

    // ---- shift

    /** "(-127 to 127)"; "-3: the number". */
    static void promise07_by127EachWay() {
        run("put 0 1 0").is("shift 127", 1).is("note 0 2", 127).is("shift -127", 1).is("note 0 2", 0);
        run().is("shift 127", 0).is("shift -127", 0).refuses("shift 128", -3).refuses("shift -128", -3)
                .refuses("shift MIN", -3).refuses("shift MAX", -3);
        busyTape().refuses("shift 128", -3).refuses("shift -128", -3);
    }

    /** "-3: some PITCH would be below 0". */
    static void promise07_notBelow0() {
        run("put 0 1 60", "put 1 1 5", "put 2 1 60").refuses("shift -6", -3).refuses("shift -127", -3)
                .is("shift -5", 3).is("note 1 2", 0).is("note 0 2", 55).refuses("shift -1", -3);
    }

    /** "-3: some PITCH would be above 127". */
    static void promise07_notAbove127() {
        run("put 0 1 60", "put 1 1 122", "put 2 1 60").refuses("shift 6", -3).refuses("shift 127", -3)
                .is("shift 5", 3).is("note 1 2", 127).is("note 2 2", 65).refuses("shift 1", -3);
        run("put 0 1 0", "put 0 1 127").refuses("shift 1", -3).refuses("shift -1", -3).is("shift 0", 2);
    }

    static void promise07_theLastOfAHundredToo() {
        run().times(99, "put 0 1 60").is("put 1 1 127", 99).refuses("shift 1", -3).is("shift -1", 100)
                .is("note 99 2", 126).is("note 0 2", 59);
    }

    /** "its TONE: PITCH modulo 12". */
    static void promise07_tonesGoRound() {
        run("put 0 16 71").is("note 0 3", 11).is("shift 1", 1).is("note 0 3", 0).is("tones 0 0", 16)
                .is("tones 0 11", 0).is("shift -1", 1).is("note 0 3", 11).is("tones 0 11", 16).is("shift 12", 1)
                .is("note 0 3", 11);
    }

    static void promise07_howManyWithoutNotes() {
        run().is("shift 1", 0).is("shift 0", 0).is("count 0", 0);
    }

    // ---- undo

    /** "-5: none can". */
    static void promise08_noneCan() {
        run().refuses("undo", -5);
        run("put 0 1 1").is("undo", 0).refuses("undo", -5);
        run("text c4:1").refuses("undo", -5);
        run("windows 4 4", "weight 0 0 0", "net 1 1 1 1", "pin 0 0", "feed 1 1 1 1 1").refuses("undo", -5);
    }

    /** "the latest 10 can be UNDONE": puts. */
    static void promise08_theLatestTenPuts() {
        Run x = run();
        for (int i = 0; i < 10; i++) {
            x.is("put " + i + " 1 " + i, i).is("count 3", i + 1);
        }
        x.is("put 10 1 10", 10).is("count 3", 10).is("put 11 1 11", 11).is("count 3", 10);
        for (int i = 9; i >= 0; i--) {
            x.is("undo", i).is("count 3", i).is("count 0", i + 2).is("note " + (i + 1) + " 2", i + 1)
                    .is("note " + (i + 2) + " 2", -2);
        }
        x.is("undo", -5).is("count 0", 2);
    }

    /** Of just ten ACTS the first, too. */
    static void promise08_justTen() {
        run().times(10, "put 0 1 60").is("undo", 9).times(8, "undo").is("undo", 0).is("count 0", 0).is("undo", -5);
    }

    /** Drops and shifts that go beyond ten: each of those kept comes back as it was. */
    static void promise08_theLatestTenOfEachKind() {
        Run x = run("text c4:1 d4:2 e4:3 f4:4 g4:5 a4:6", "drop 0", "shift 1", "put 40 7 90", "drop 1", "shift -2",
                "put 0 64 0", "drop 0", "shift 3", "drop 0", "shift 4", "put 50 1 1", "shift 5");
        x.is("count 3", 10).is("undo", 9).is("note 0 2", 71).is("note 4 2", 1).is("undo", 8).is("count 0", 4)
                .is("undo", 7).is("note 0 2", 67).is("undo", 6).is("note 0 2", 64).is("note 0 1", 2)
                .is("note 0 0", 1).is("count 0", 5).is("undo", 5).is("note 0 2", 61).is("undo", 4)
                .is("note 0 0", 0).is("note 0 1", 64).is("note 0 2", 0).is("undo", 3).is("count 0", 5)
                .is("undo", 2).is("note 0 2", 63).is("undo", 1).is("note 1 2", 65).is("note 1 0", 3)
                .is("note 1 1", 3).is("undo", 0).is("count 0", 5).is("note 0 2", 63).is("undo", -5);
    }

    /** "put(), drop(), shift() that aren't refused". */
    static void promise08_refusedOnesAreNoActs() {
        run("put 0 1 0").does("put 0 0 0", "drop 1", "drop -1", "shift -1", "shift 128", "undo", "undo")
                .is("count 3", 0).is("count 0", 0);
        full().is("count 3", 10).does("put 0 1 1", "drop 100", "shift 128").is("undo", 9).is("count 0", 99);
    }

    /** "(even if all is as it was)". */
    static void promise08_actsThatChangeNothing() {
        run("put 0 1 60").is("shift 0", 1).is("count 3", 2).is("undo", 1).is("count 0", 1).is("undo", 0)
                .is("count 0", 0);
        run().is("shift 5", 0).is("count 3", 1).is("shift 0", 0).is("count 3", 2).is("undo", 1).is("undo", 0)
                .is("undo", -5);
        run("put 0 1 60").times(10, "shift 0").is("count 3", 10).times(10, "undo").is("count 0", 1).is("undo", -5);
    }

    /** An undo is no ACT: the next one goes further back; new ACTS come behind what is left. */
    static void promise08_undoIsNoAct() {
        run("put 0 1 1", "put 1 1 2", "put 2 1 3").is("undo", 2).is("undo", 1).is("count 0", 1).is("put 5 1 9", 1)
                .is("count 3", 2).is("undo", 1).is("note 0 2", 1).is("note 1 2", -2);
    }

    /** "(NOTES alone; ..)". */
    static void promise08_notesAlone() {
        run("put 0 16 60").does("windows 8 12", "weight 0 0 5", "net 1 2 3 4", "pin 0 9", "text ?",
                "feed 1664367153 0 0 0 0").is("undo", 0).is("count 5", 8).is("count 6", 12).is("weight 0 0 5", 5)
                .is("count 8", 1).is("count 9", 2).is("count 10", 3).is("count 11", 4).is("pin 0 9", 9)
                .is("fault 0", 1).is("fault 1", 0).is("count 4", 20).is("load 4", 1);
    }

    /** "load() forgets them". */
    static void promise08_loadForgets() {
        run("put 0 1 1").is("text c4:1", 1).is("count 3", 0).is("undo", -5).is("count 0", 1);
        run("put 0 1 1").is("load 0", 0).is("count 3", 0).is("undo", -5).is("count 0", 0);
        run().times(12, "shift 0").is("load 0", 0).is("undo", -5).is("shift 0", 0).is("undo", 0);
    }

    /** A refused load() forgets nothing: "Refused calls .. change nothing". */
    static void promise08_refusedLoadForgetsNothing() {
        run("put 0 1 1", "put 1 1 1").does("load 1", "load -1", "text c4:1 ?", "text c4:0", "text g#9:1",
                "text " + "-:64".repeat(8) + "-:1").is("count 3", 2).is("undo", 1).is("undo", 0)
                .is("count 0", 0);
    }

    /** A NOTE that comes back has the number that it had. */
    static void promise08_numbersAsTheyWere() {
        run("text (c4 e4 g4):4 a4:4").is("drop 1", 3).is("undo", 0).is("note 1 2", 64).is("note 2 2", 67)
                .is("drop 3", 3).is("undo", 0).is("note 3 2", 69).is("put 0 4 62", 1).is("undo", 0)
                .is("note 1 2", 64).is("drop 0", 3).is("undo", 0).is("note 0 2", 60).is("note 0 1", 4);
        full().is("drop 99", 99).is("undo", 9).is("note 99 0", 10).is("put 0 1 1", -4);
    }

    /** What follows from NOTES follows from those that are back. */
    static void promise08_windowsAsTheyWere() {
        run("windows 16 16", "text c4:16").is("key 0", 0).is("put 16 16 62", 1).is("count 1", 2).is("key 1", 14)
                .is("undo", 0).is("count 1", 1).is("key 1", -2).is("drop 0", 0).is("count 1", 0).is("undo", 0)
                .is("count 1", 1).is("key 0", 0).is("shift 7", 1).is("key 0", 7).is("undo", 0).is("key 0", 0);
    }

    // ---- note

    /** "-2": the NOTE. */
    static void promise09_noSuchNote() {
        run().is("note 0 0", -2).is("note -1 0", -2).is("note MIN 3", -2).is("note MAX 3", -2);
        full().is("note 99 0", 10).is("note 100 0", -2).is("note -1 0", -2).is("note MAX 0", -2)
                .is("note MIN 0", -2);
        run("text c4:1 d4:1").is("note 1 2", 62).is("note 2 2", -2).does("drop 0").is("note 1 2", -2)
                .is("note 0 2", 62);
    }

    /** "-2": what. */
    static void promise09_noSuchWhat() {
        run("text -:3 g9:7").is("note 0 0", 3).is("note 0 1", 7).is("note 0 2", 127).is("note 0 3", 7)
                .is("note 0 4", -2).is("note 0 -1", -2).is("note 0 MIN", -2).is("note 0 MAX", -2);
    }

    /** "its TONE: PITCH modulo 12 (0 is c)". */
    static void promise09_toneOfEachPitch() {
        for (int pitch = 0; pitch <= 127; pitch++) {
            run("put 0 1 " + pitch).is("note 0 2", pitch).is("note 0 3", pitch % 12);
        }
    }
}
