/** THE TAPE and THE TEXT with its FAULTS: promises 2 to 4. */
final class TextBoundaries extends Boundaries {
    /** Rests up to tick 448, and up to 512. */
    private static final String SEVEN = "-:64".repeat(7);
    private static final String EIGHT = "-:64".repeat(8);
    /** 96 notes in 16 ticks, of 256 bytes. */
    private static final String NINETY_SIX = "(c4d4e4f4g4a4):1".repeat(16);
    private static final String TWENTY_ZEROS = "feed 0 0 0 0 0";

    private TextBoundaries() {
    }

    private static void fine(String text, int notes) {
        run("text ?").is("text " + text, notes).is("fault 0", 0).is("fault 1", -1).is("count 4", 0)
                .is("count 0", notes);
    }

    private static void wrong(String text, int fault, int place) {
        run("put 3 4 65").refusesText(text, fault, place);
    }

    // ---- feed

    /** "Twenty bytes come behind those on THE TAPE, the highest of each int first: how many it has." */
    static void promise02_highestByteFirst() {
        // c0:1 d1:2 e2:3 f3:4 g4:5
        run().is("feed 1664105009 1680947762 1697790515 1714633268 1731476021", 20).is("load 20", 5)
                .row("note 0", 0, 1, 12, 0).row("note 1", 1, 2, 26, 2).row("note 2", 3, 3, 40, 4)
                .row("note 3", 6, 4, 53, 5).row("note 4", 10, 5, 67, 7);
    }

    static void promise02_behindThoseThatAreThere() {
        // "c0:1" and blanks, then "d1:2" and blanks
        run().is("feed 1664105009 538976288 538976288 538976288 538976288", 20)
                .is("feed 1680947762 538976288 538976288 538976288 538976288", 40).is("load 40", 2)
                .is("note 0 2", 12).is("note 1 2", 26);
    }

    /** "-4: it would have more than 700." */
    static void promise02_just700Bytes() {
        Run x = run();
        for (int i = 1; i <= 35; i++) {
            x.is(TWENTY_ZEROS, 20 * i);
        }
        x.is(TWENTY_ZEROS, -4).is("count 4", 700);
        String blanks = "feed 538976288 538976288 538976288 538976288 538976288";
        run().times(34, blanks).does("feed 538976288 538976288 538976288 538976288 1664105009")
                .refuses(TWENTY_ZEROS, -4).refuses("feed MIN MAX -1 0 1", -4).is("load 700", 1).is("note 0 2", 12);
    }

    static void promise02_roomAgainOnceItIsEmpty() {
        run().times(35, TWENTY_ZEROS).is("load 0", 0).is(TWENTY_ZEROS, 20).times(33, TWENTY_ZEROS)
                .is(TWENTY_ZEROS, 700).is("load 700", -31).is(TWENTY_ZEROS, 20);
    }

    /** A refused load() leaves the tape full. */
    static void promise02_fullAsLongAsItIsNotLoaded() {
        run().times(35, TWENTY_ZEROS).is("load 701", -3).is("load -1", -3).refuses(TWENTY_ZEROS, -4);
    }

    /** Bytes are bytes: none above 127 is taken for another. */
    static void promise02_bytesAbove127() {
        for (int sign = 128; sign < 256; sign++) {
            run("text c4:1" + (char) sign).is("fault 0", 1).is("fault 1", 4);
        }
        run("feed MIN 0 0 0 0").is("load 1", -31).is("fault 1", 0);
        run("feed -1 -1 -1 -1 -1").is("load 20", -31).is("fault 1", 0);
    }

    // ---- load

    /** "-3: n is below 0, above what there is (THE TAPE stays)". */
    static void promise03_nFrom0ToWhatThereIs() {
        run().refuses("load -1", -3).refuses("load 1", -3).refuses("load MIN", -3).refuses("load MAX", -3);
        busy().does("feed 1664105009 1680947762 1697790515 1714633268 1731476021").refuses("load -1", -3)
                .refuses("load 21", -3).refuses("load MIN", -3).refuses("load MAX", -3).is("count 4", 20)
                .is("load 20", 5);
        run().times(35, TWENTY_ZEROS).refuses("load 701", -3);
    }

    /** "(be it of no byte)": nothing is told, and all is gone. */
    static void promise03_ofNoByte() {
        run().is("load 0", 0).is("count 0", 0);
        busy().does("feed 1664105009 0 0 0 0").is("load 0", 0).is("count 0", 0).is("count 4", 0).is("count 1", 0)
                .is("count 2", 0).is("count 3", 0).is("fault 0", 0).is("load 1", -3);
    }

    /** "The first n bytes of THE TAPE (which is empty then)". */
    static void promise03_theFirstBytesAlone() {
        run("feed 1664105009 1680947762 1697790515 1714633268 1731476021").is("load 8", 2).is("count 4", 0)
                .is("load 1", -3).is("note 2 0", -2);
        // "c0:16" of which four bytes are N 1
        run("feed 1664105009 905969664 0 0 0").is("load 4", 1).is("note 0 1", 1);
        run("feed 1664105009 905969664 0 0 0").is("load 5", 1).is("note 0 1", 16);
        run("feed 1664105009 905969664 0 0 0").is("load 3", -31).is("fault 1", 3);
    }

    static void promise03_all700Bytes() {
        fine(" ".repeat(695) + "c4:64", 1);
        fine(" ".repeat(700), 0);
        wrong(" ".repeat(699) + "?", 1, 699);
        wrong(" ".repeat(699) + "c", 1, 700);
        wrong("c4:" + "0".repeat(697), 2, 3);
        wrong("c4:" + "9".repeat(697), 2, 3);
    }

    /** "its NOTES in place of all: how many". */
    static void promise03_inPlaceOfAll() {
        run().times(100, "put 0 64 60").is("text c4:1 d4:1", 2).is("count 0", 2).is("count 2", 2).is("note 1 2", 62)
                .is("note 2 2", -2);
        run("text " + NINETY_SIX).is("text " + NINETY_SIX + "(c4d4e4f4):1", 100).is("count 0", 100)
                .is("text -:4", 0).is("count 0", 0).is("count 2", 0);
    }

    /** A text without NOTES is one. */
    static void promise03_withoutNotes() {
        fine("", 0);
        fine(" ", 0);
        fine("|", 0);
        fine("| | ||", 0);
        fine("-:64", 0);
        fine("-:1 | -:1", 0);
        run("text -:64").is("count 1", 0).is("count 2", 0).is("cost", 0);
    }

    /** What a load() leaves as it is. */
    static void promise03_termsAndPinsStay() {
        busy().is("text c4:16", 1).is("count 5", 12).is("count 6", 20).is("pin 1 NONE", 4).is("weight 1 3 0", 50)
                .is("count 8", 30).is("count 9", 20).is("count 10", 50).is("count 11", 2);
    }

    /** "-30 less the FAULT: a text (THE TAPE is empty then; nothing else changes)". */
    static void promise03_aFaultChangesNothingElse() {
        busy().refusesText("c4:8 ?", 1, 5).refusesText("c4:8 d4:65", 2, 8).refusesText("c4:8 g#9:1", 3, 5)
                .refusesText("c4:8 " + EIGHT, 4, 35);
        run().refusesText("?", 1, 0).refusesText("c4:0", 2, 3);
        run("text d4:4").refusesText("?", 1, 0);
    }

    static void promise03_aFaultEmptiesTheTape() {
        run("feed 1664105009 1680947762 1056964608 0 0").is("load 9", -31).is("count 4", 0).is("load 1", -3)
                .is("fault 1", 8).is(TWENTY_ZEROS, 20);
        run("feed 1056964608 0 0 0 0").is("load 1", -31).is("count 4", 0);
    }

    /** Those NOTES are numbered like all. */
    static void promise03_numberedLikeAll() {
        run("text (g4 c5 c4 e4):4 c4:2").row("note 0", 0, 4, 60, 0).is("note 1 2", 64).is("note 2 2", 67)
                .is("note 3 2", 72).row("note 4", 4, 2, 60, 0);
    }

    // ---- NAMES and N

    /** "c 0, d 2, e 4, f 5, g 7, a 9, b 11, one up or down". */
    static void promise03_pitchOfEachName() {
        String letters = "cdefgab";
        int[] tones = {0, 2, 4, 5, 7, 9, 11};
        for (int i = 0; i < 7; i++) {
            char letter = letters.charAt(i);
            run("text " + letter + "4:1").is("note 0 2", 60 + tones[i]);
            run("text " + letter + "#4:1").is("note 0 2", 61 + tones[i]);
            run("text " + letter + "!4:1").is("note 0 2", 59 + tones[i]);
        }
    }

    /** "an octave 0 to 9: PITCH 12 times the octave and 1". */
    static void promise03_octaveFrom0To9() {
        for (int octave = 0; octave <= 9; octave++) {
            run("text c" + octave + ":1").is("note 0 2", 12 * octave + 12);
        }
        run("text c!0:1 b#8:1").is("note 0 2", 11).is("note 1 2", 120);
        wrong("c/:1", 1, 1);
        wrong("c::1", 1, 1);
    }

    /** "of an octave one digit". */
    static void promise03_octaveOfOneDigit() {
        wrong("c10:1", 1, 2);
        wrong("c00:1", 1, 2);
        wrong("c#44:1", 1, 3);
        wrong("(c44):1", 1, 3);
        wrong("(c4 4):1", 1, 4);
        fine("c0:1", 1);
    }

    /** "then # (one up) or ! (one down) or neither". */
    static void promise03_oneSharpOrFlatAtMost() {
        wrong("c##4:1", 1, 2);
        wrong("c!!4:1", 1, 2);
        wrong("c#!4:1", 1, 2);
        wrong("c!#4:1", 1, 2);
        wrong("#4:1", 1, 0);
        wrong("c4#:1", 1, 2);
        fine("c#4:1 c!4:1 c4:1", 3);
    }

    static void promise03_lettersFromAToG() {
        fine("a4:1 g4:1", 2);
        wrong("h4:1", 1, 0);
        wrong("`4:1", 1, 0);
        wrong("A4:1", 1, 0);
        wrong("(h4):1", 1, 1);
        wrong("(c4 `4):1", 1, 4);
    }

    /** "N: 1 to 64"; "2 N out of its bounds (at it)". */
    static void promise03_nFrom1To64() {
        fine("c4:1 -:1 (c4):1", 2);
        fine("c4:64 -:64 (c4):64", 2);
        wrong("c4:0", 2, 3);
        wrong("c4:65", 2, 3);
        wrong("c4:99", 2, 3);
        wrong("-:0", 2, 2);
        wrong("-:65", 2, 2);
        wrong("(c4):0", 2, 5);
        wrong("(c4):65", 2, 5);
        wrong("c4:  65", 2, 5);
    }

    /** "or of more than two digits (at it)". */
    static void promise03_nOfTwoDigitsAtMost() {
        fine("c4:01 -:09", 1);
        run("text c4:09").is("note 0 1", 9);
        wrong("c4:00", 2, 3);
        wrong("c4:001", 2, 3);
        wrong("c4:064", 2, 3);
        wrong("c4:100", 2, 3);
        wrong("-:001", 2, 2);
        wrong("(c4):016", 2, 5);
        wrong("c4:4294967297", 2, 3);
        wrong("c4:18446744073709551617", 2, 3);
    }

    // ---- blanks, bytes and the end

    /** "blanks (32) may stand between all". */
    static void promise03_blanksBetweenAll() {
        fine("  c  #  4  :  16  |  -  :  8  (  c  4  e  !  4  )  :  4  ", 3);
        run("text   c  #  4  :  16  -  :  8  (  c  4  e  !  4  )  :  4  ").row("note 0", 0, 16, 61, 1)
                .row("note 1", 24, 4, 60, 0).row("note 2", 24, 4, 63, 3);
        fine("c#4:16-:8(c4e!4):4|d4:1", 4);
    }

    /** "Numbers (digits, as long as they go on)": no blanks in them. */
    static void promise03_noBlankInANumber() {
        wrong("c4:1 6", 1, 5);
        wrong("-:1 6", 1, 4);
        wrong("(c4):1 6", 1, 7);
        run("text c4:16d4:1").is("note 0 1", 16).is("note 1 0", 16);
    }

    static void promise03_otherBytesAreNoBlanks() {
        for (int sign = 0; sign < 128; sign++) {
            if ("abcdefg(-| 0123456789".indexOf(sign) < 0) {
                run("text c4:1" + (char) sign).is("fault 0", 1).is("fault 1", 4);
                run("text " + (char) sign).is("fault 0", 1).is("fault 1", 0);
                run("text (" + (char) sign + "c4):1").is("fault 0", 1).is("fault 1", 1);
            }
        }
    }

    /** "1 what can't stand there (at it; the end: how many bytes there are)". */
    static void promise03_whatCantStandThere() {
        wrong("4", 1, 0);
        wrong(":", 1, 0);
        wrong(")", 1, 0);
        wrong("c:1", 1, 1);
        wrong("c4 d4:1", 1, 3);
        wrong("c4|:1", 1, 2);
        wrong("c4:|", 1, 3);
        wrong("c4:-", 1, 3);
        wrong("c4:c", 1, 3);
        wrong("c4::1", 1, 3);
        wrong("c4:1:", 1, 4);
        wrong("-4:1", 1, 1);
        wrong("--:1", 1, 1);
        wrong("-|", 1, 1);
        wrong("c4-:1", 1, 2);
        wrong("|:1", 1, 1);
    }

    static void promise03_theEndWhereMoreIsDue() {
        wrong("c", 1, 1);
        wrong("c#", 1, 2);
        wrong("c4", 1, 2);
        wrong("c4:", 1, 3);
        wrong("c4: ", 1, 4);
        wrong("c   ", 1, 4);
        wrong("-", 1, 1);
        wrong("-:", 1, 2);
        wrong("(", 1, 1);
        wrong("(c", 1, 2);
        wrong("(c4", 1, 3);
        wrong("(c4 ", 1, 4);
        wrong("(c4)", 1, 4);
        wrong("(c4):", 1, 5);
        wrong("c4:1 d4:1 e4", 1, 12);
    }

    // ---- CHORDS

    /** "CHORD: ( NAME { NAME } ) : N". */
    static void promise03_chordOfOneNameAtLeast() {
        fine("(c4):1", 1);
        wrong("()", 1, 1);
        wrong("( ):1", 1, 2);
        wrong("(:1", 1, 1);
        wrong("((c4)):1", 1, 1);
        wrong("(c4(", 1, 3);
        wrong("(c4:1)", 1, 3);
        wrong("(c4|d4):1", 1, 3);
        wrong("(c4 -):1", 1, 4);
        wrong("(c4))", 1, 4);
    }

    /** "6 at most"; "3 a seventh one (at its letter)". */
    static void promise03_chordOfSixNamesAtMost() {
        fine("(c4d4e4f4g4a4):1", 6);
        wrong("(c4d4e4f4g4a4b4):1", 3, 13);
        wrong("(c4d4e4f4g4a4 b4):1", 3, 14);
        wrong("(c4d4e4f4g4a4b", 3, 13);
        wrong("(c4d4e4f4g4a4b?", 3, 13);
        wrong("(c4d4e4f4g4a4?", 1, 13);
        wrong("(c4d4e4f4g4a4", 1, 13);
        wrong("(c4d4e4f4g4a4c4):1", 3, 13);
        fine("(c4d4e4f4g4a4):1(c4d4e4f4g4a4):1", 12);
    }

    /** "unlike NAMES"; "3 a NAME told again in its CHORD". */
    static void promise03_unlikeNames() {
        wrong("(c4c4):1", 3, 3);
        wrong("(c4 d4 c4):1", 3, 7);
        wrong("(c#4 e4 g4 c#4):1", 3, 11);
        wrong("(c4d4e4f4g4g4):1", 3, 11);
        fine("(c4c5):1", 2);
        fine("(c4c#4):1", 2);
        fine("(c4):1(c4):1 c4:1", 3);
    }

    /** "(of the same PITCH, too)". */
    static void promise03_unlikePitches() {
        wrong("(c#4d!4):1", 3, 4);
        wrong("(e4 f!4):1", 3, 4);
        wrong("(b#3 c4):1", 3, 5);
        wrong("(b3 c!4):1", 3, 4);
        fine("(b#4 c4):1", 2);
        fine("(e#4 e4):1", 2);
    }

    /** "a PITCH .. above 127 (at its letter)". None that a text can tell is below 0. */
    static void promise03_pitchUpTo127() {
        fine("g9:1 g!9:1 f#9:1", 3);
        wrong("g#9:1", 3, 0);
        wrong("a!9:1", 3, 0);
        wrong("a9:1", 3, 0);
        wrong("b#9:1", 3, 0);
        wrong("c4:1 b9:1", 3, 5);
        wrong("(c4 g#9):1", 3, 4);
        fine("c!0:1 c0:1", 2);
        run("text c!0:1").is("note 0 2", 11);
    }

    /** "both of PITCH once the NAME is whole". */
    static void promise03_pitchOnceTheNameIsWhole() {
        wrong("g#", 1, 2);
        wrong("g#?9", 1, 2);
        wrong("b", 1, 1);
        wrong("g#9", 3, 0);
        wrong("g#9?", 3, 0);
        wrong("g # 9 ?", 3, 0);
        wrong("(c4 c", 1, 5);
        wrong("(c4 c?", 1, 5);
        wrong("(c4 c4", 3, 4);
        wrong("(c4 c4?", 3, 4);
    }

    // ---- how many, how late

    /** "3 a 101st NOTE (at its letter)". */
    static void promise03_aHundredNotes() {
        String hundred = NINETY_SIX + "c4:1d4:1e4:1f4:1";
        fine(hundred, 100);
        fine(hundred + "-:1|", 100);
        wrong(hundred + "g4:1", 3, 272);
        wrong(hundred + "-:1 g4:1", 3, 276);
        wrong(hundred + "g", 3, 272);
        wrong(hundred + "g?", 3, 272);
        wrong(hundred + "?", 1, 272);
        wrong(hundred + "g#9:1", 3, 272);
    }

    /** "(of a CHORD, too; at its letter)". */
    static void promise03_theLastOfThemInAChord() {
        fine(NINETY_SIX + "(c4d4e4f4):1", 100);
        wrong(NINETY_SIX + "(c4d4e4f4g4):1", 3, 265);
        wrong(NINETY_SIX + "(c4d4e4f4g", 3, 265);
        wrong(NINETY_SIX + "(c4d4e4f4?", 1, 265);
        wrong(NINETY_SIX + "(c4d4e4f4):1(g4):1", 3, 269);
        wrong(NINETY_SIX + "(c4d4e4f4):1(?", 1, 269);
        wrong(NINETY_SIX + "c4:1d4:1e4:1(f4 g4):1", 3, 272);
    }

    /** NOTES that were there ahead of the load() don't count. */
    static void promise03_aHundredOfTheTextAlone() {
        run().times(100, "put 0 1 60").is("text " + NINETY_SIX + "(c4d4e4f4):1", 100);
    }

    /** "4 a NOTE, REST, CHORD beyond TICK 512 (at its N)". */
    static void promise03_notBeyondTick512() {
        fine(SEVEN + "c4:64", 1);
        fine(SEVEN + "(c4 e4):64", 2);
        fine(EIGHT, 0);
        fine(EIGHT + " | ", 0);
        wrong(EIGHT + "c4:1", 4, 35);
        wrong(EIGHT + "-:1", 4, 34);
        wrong(EIGHT + "(c4):1", 4, 37);
        wrong(SEVEN + "c4:1 d4:64", 4, 36);
        wrong(SEVEN + "c4:1 -: 64", 4, 36);
        wrong(SEVEN + "c4:1 (d4):64", 4, 38);
        fine(SEVEN + "c4:1 d4:63", 2);
        run("text " + SEVEN + "-:63 d4:1").row("note 0", 511, 1, 62, 2).is("count 2", 512);
    }

    /** "the first along THE TEXT". */
    static void promise03_theFirstFault() {
        wrong("c4:0 ? g#9:1", 2, 3);
        wrong("? c4:0", 1, 0);
        wrong("g#9:0", 3, 0);
        wrong("(c4 c4):0", 3, 4);
        wrong(EIGHT + "c4:1 ?", 4, 35);
        wrong(EIGHT + "g#9:1", 3, 32);
        wrong(EIGHT + "c4?1", 1, 34);
    }

    /** "(of one place the least)": of N 2 ahead of 4. */
    static void promise03_ofOnePlaceTheLeast() {
        wrong(EIGHT + "c4:0", 2, 35);
        wrong(EIGHT + "c4:65", 2, 35);
        wrong(EIGHT + "-:001", 2, 34);
        wrong(SEVEN + "(c4):99", 2, 33);
        wrong(EIGHT + "c4:", 1, 35);
    }

    /** "They come one behind another, from TICK 0 on; | says nothing." */
    static void promise03_oneBehindAnother() {
        run("text c4:3 | -:5 || (d4 e4):64 f4:1").is("note 0 0", 0).is("note 1 0", 8).is("note 2 0", 8)
                .is("note 3 0", 72).is("count 2", 73);
        run("text -:9 c4:1").is("text d4:1", 1).is("note 0 0", 0);
    }

    // ---- fault

    /** "its FAULT (0)", "its place (NONE)": "NONE .. for place ahead of any". */
    static void promise04_aheadOfAnyLoad() {
        run().is("fault 0", 0).is("fault 1", -1).is("load 1", -3).is("fault 0", 0).is("fault 1", -1)
                .is("feed 1056964608 0 0 0 0", 20).is("load 21", -3).is("fault 0", 0).is("fault 1", -1);
    }

    /** "NONE for others". */
    static void promise04_noneForOthers() {
        run().is("fault 2", -1).is("fault -1", -1).is("fault MIN", -1).is("fault MAX", -1);
        run("text c4:0").is("fault 0", 2).is("fault 1", 3).is("fault 2", -1).is("fault -1", -1).is("fault MIN", -1)
                .is("fault MAX", -1);
    }

    /** "Of the latest load() that emptied THE TAPE". */
    static void promise04_ofTheLatestThatEmptiedTheTape() {
        run("text c4:0").does("load 1", "load -1").is("fault 0", 2).is("fault 1", 3).is("text ?", -31)
                .is("fault 0", 1).is("fault 1", 0).is("text c4:1", 1).is("fault 0", 0).is("fault 1", -1);
        run("text c4:1", "text c4:").is("fault 0", 1).is("fault 1", 3).does("feed 0 0 0 0 0").is("load 21", -3)
                .is("fault 0", 1).is("fault 1", 3);
    }

    /** "(be it of no byte)". */
    static void promise04_beItOfNoByte() {
        run("text c4:0").is("load 0", 0).is("fault 0", 0).is("fault 1", -1);
        run("text c4:0", "feed 0 0 0 0 0").is("load 0", 0).is("fault 0", 0).is("fault 1", -1);
    }

    /** Nothing but a load() changes it. */
    static void promise04_otherCallsSayNothing() {
        run("text c4:0").does("put 0 1 1", "drop 0", "shift 1", "undo", "windows 8 8", "pin 0 0", "weight 0 0 0",
                "net 1 1 1 1", "feed 0 0 0 0 0", "cost").is("fault 0", 2).is("fault 1", 3);
    }
}
