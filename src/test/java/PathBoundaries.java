/** THE PATH, what other PATHS cost, SEGMENTS: promises 22 to 32. */
final class PathBoundaries extends Boundaries {
    private PathBoundaries() {
    }

    /** All WEIGHTS 0, but 10 for the first STEP of major: each TONE has one KEY, others cost 1000 more. */
    private static Run sharp(String text, String... more) {
        return flat("windows 16 16", "weight 0 0 10", "text " + text).does(more);
    }

    /** 48 windows of 4 ticks, c and f sharp by turns; any step of the net costs 1. */
    private static Run manyMoves() {
        return sharp("c4:4f#4:4".repeat(24), "windows 4 4", "net 1 1 1 1");
    }

    // ---- cost, and PATHS that can't be

    /** "(0 without WINDOWS)". */
    static void promise22_withoutWindows() {
        run().is("cost", 0);
        run("pin 0 0", "pin 1 5").is("cost", 0);
        run("put 0 1 60").does("drop 0").is("cost", 0);
        run("text -:64").is("cost", 0);
    }

    /** "If PINS can't be (a SILENT WINDOW's and that of the one ahead ..), there is none"; "-5". */
    static void promise22_aSilentOneAndTheOneAhead() {
        blocks("c4:16 -:16 c4:16", "pin 0 0", "pin 1 0").is("cost", 0);
        pathless().is("cost", -5).does("pin 1 NONE").is("cost", 0).does("pin 1 7").is("cost", -5)
                .does("pin 0 NONE").is("cost", 6300 - 4100 + 40);
    }

    /** "or such in a row". */
    static void promise22_suchInARow() {
        blocks("c4:16 -:48 c4:16", "pin 1 0", "pin 3 0").is("cost", 0);
        blocks("c4:16 -:48 c4:16", "pin 1 0", "pin 3 7").is("cost", -5);
        blocks("c4:16 -:48 c4:16", "pin 0 0", "pin 3 7").is("cost", -5);
        blocks("c4:16 -:48 c4:16", "pin 2 0", "pin 3 7").is("cost", -5);
        blocks("c4:16 -:48 c4:16", "pin 3 0", "pin 4 7").is("cost", 6300 - 4100 + 40);
        blocks("-:48 c4:16", "pin 0 0", "pin 2 7").is("cost", -5);
        blocks("-:48 c4:16", "pin 1 0", "pin 2 7").is("cost", -5);
    }

    /** WINDOWS that sound can be pinned to any KEYS. */
    static void promise22_thoseThatSoundCanBe() {
        blocks("c4:16 c4:16", "pin 0 0", "pin 1 7").is("cost", 6300 - 4100 + 40);
        blocks("-:16 c4:16", "pin 0 7", "pin 1 0").is("cost", 40);
    }

    /** Once there is sound in between, or the PIN goes, there is one again. */
    static void promise22_thereIsOneAgain() {
        pathless().does("put 16 1 60").is("cost", 6300 - 4100 + 2 * 40).does("undo").is("cost", -5)
                .does("pin 0 7").is("cost", 2200 + 40);
        pathless().does("windows 16 32").is("cost", 6300 - 4100 + 40).does("windows 16 16").is("cost", -5)
                .does("text c4:16").is("cost", 0).does("load 0").is("cost", 0);
    }

    /** A call that is answered by -5 changes nothing. */
    static void promise22_refusedWithoutAPath() {
        pathless().refuses("cost", -5).refuses("ties", -5).refuses("firm", -5).refuses("second 0", -5)
                .refuses("lasting 1", -5).refuses("within 0", -5).refuses("segments", -5).refuses("close", -5);
    }

    /** SILENT WINDOWS cost nothing. */
    static void promise22_silentOnes() {
        run("windows 4 8", "put 4 4 60", "put 12 4 62").is("count 7", 2).is("cost", 0).is("ties", 24);
        blocks("-:16 c4:16", "pin 0 7", "pin 1 7").is("cost", 2200);
    }

    /** The dearest PATH that can be. */
    static void promise22_theDearest() {
        Run x = manyMoves().does("shift 1", "weight 0 0 99", "net 999 999 999 100");
        for (int window = 0; window < 48; window++) {
            x.does("pin " + window + " " + (window % 2 == 0 ? 0 : 6));
        }
        x.is("cost", 48 * 9900 + 47 * 399600).is("ties", 1).is("within 46", -1).is("within 47", 48 * 9900
                + 47 * 399600);
    }

    // ---- key

    /** "-2; -5": the WINDOW is told first. */
    static void promise23_noSuchWindow() {
        run().is("key 0", -2).is("key -1", -2);
        blocks("c4:16 d4:16").is("key 1", 14).is("key 2", -2).is("key -1", -2).is("key MIN", -2).is("key MAX", -2);
        pathless().is("key 0", -5).is("key 2", -5).is("key 3", -2).is("key -1", -2);
    }

    static void promise23_theLastOf48() {
        manyMoves().is("key 46", 0).is("key 47", 6).is("key 48", -2).does("put 192 4 60").is("key 48", -2)
                .is("key 47", 6);
    }

    /** "a WINDOW that is SILENT, but the first one, has that of the WINDOW ahead". */
    static void promise23_silentOnesKeepIt() {
        sharp("d4:16 -:32 c4:16", "net 0 0 0 0").row("key", 2, 2, 2, 0);
        sharp("d4:16 -:32 c4:16 -:16 d4:1").row("key", 2, 2, 2, 0, 0, 2);
    }

    /** The first one may have any. */
    static void promise23_theFirstMayBeSilent() {
        sharp("-:32 d4:16", "net 0 0 0 0").row("key", 0, 0, 2).is("ties", 24);
        sharp("-:32 d4:16").row("key", 2, 2, 2).is("ties", 1);
    }

    /** "one that is PINNED that to which it is (a SILENT one, too)". */
    static void promise23_pinnedOnes() {
        sharp("d4:16 -:32 c4:16", "pin 2 23").row("key", 23, 23, 23, 0);
        sharp("-:32 d4:16", "pin 0 5").row("key", 5, 5, 2);
        sharp("-:32 d4:16", "pin 1 5").row("key", 5, 5, 2);
        sharp("d4:16", "pin 0 0").is("key 0", 0).does("pin 0 12").is("key 0", 12).does("pin 0 11").is("key 0", 11);
    }

    /** "of like ones the first (KEYS as numbers, from the first WINDOW on)". */
    static void promise23_ofLikeOnesTheFirst() {
        blocks("c4:16").is("key 0", 0);
        blocks("c4:16 c4:16").row("key", 0, 0);
        sharp("c4:16 d4:16", "net 500 999 999 1").is("cost", 1000).row("key", 0, 0);
        sharp("d4:16 c4:16", "net 500 999 999 1").is("cost", 1000).row("key", 0, 0);
        sharp("c4:16 d4:32", "net 500 999 999 1").is("cost", 1000).row("key", 0, 2, 2);
        sharp("d4:32 c4:16", "net 500 999 999 1").is("cost", 1000).row("key", 2, 2, 0);
    }

    // ---- ties

    static void promise24_withoutWindows() {
        run().is("ties", 1);
        run("put 0 1 60").is("ties", 2).does("drop 0").is("ties", 1);
    }

    /** "(1,000,000 at most are told)". */
    static void promise24_aMillionAtMost() {
        Run x = sharp("c4:16", "net 0 0 0 0");
        for (int step = 1; step < 10; step++) {
            x.does("weight 0 " + step + " 10");
        }
        x.is("ties", 10).is("text " + "c4:16".repeat(5), 5).is("ties", 100000).is("text " + "c4:16".repeat(6), 6)
                .is("ties", 1000000).is("text " + "c4:16".repeat(7), 7).is("ties", 1000000)
                .is("text " + "c4:64".repeat(8), 8).is("ties", 1000000);
    }

    static void promise24_justBelowAMillion() {
        blocks("c4:64".repeat(4) + "c4:48", "net 0 0 0 0").is("ties", 524288).does("text " + "c4:64".repeat(5))
                .is("ties", 1000000);
        sharp("c4:1".repeat(48), "windows 4 4", "net 0 0 0 0", "weight 0 0 0", "text " + "c4:4".repeat(4))
                .is("ties", 331776).does("text " + "c4:4".repeat(5)).is("ties", 1000000)
                .does("text " + "c4:4".repeat(48)).is("ties", 1000000);
    }

    static void promise24_pinnedOnes() {
        blocks("c4:16 c4:16", "pin 0 0", "pin 1 0").is("ties", 1).does("pin 0 NONE").is("ties", 1)
                .does("pin 1 NONE").is("ties", 2);
        pathless().is("ties", -5);
    }

    /** A SILENT one has but the KEY ahead: it makes none more, and takes none away. */
    static void promise24_silentOnes() {
        blocks("c4:16 -:16 c4:16", "net 0 0 0 0").is("ties", 4);
        blocks("c4:16 -:32 c4:16 -:16 c4:16", "net 0 0 0 0").is("ties", 8);
        blocks("-:16 c4:16", "net 0 0 0 0").is("ties", 48);
        blocks("-:16 c4:16").is("ties", 2);
    }

    // ---- through

    /** "-2: the WINDOW, KEY; -5". */
    static void promise25_noSuch() {
        run().is("through 0 0", -2);
        blocks("c4:16").is("through 0 0", 0).is("through 0 23", 3600).is("through 1 0", -2).is("through -1 0", -2)
                .is("through 0 24", -2).is("through 0 -1", -2).is("through MIN 0", -2).is("through MAX 0", -2)
                .is("through 0 MIN", -2).is("through 0 MAX", -2);
        pathless().is("through 0 0", -5).is("through 3 0", -2).is("through -1 0", -2).is("through 0 24", -2)
                .is("through 0 -1", -2).is("through 2 23", -5);
    }

    /** "NONE: there is none such": it is pinned to another KEY, or it keeps one. */
    static void promise25_noneSuch() {
        sharp("c4:16 -:16 d4:16", "pin 0 5").is("through 0 5", 1000 + 90).is("through 0 0", -1)
                .is("through 1 5", 1090).is("through 1 0", -1).is("through 2 0", 1000 + 1000 + 40)
                .is("through 2 2", 1090).does("pin 2 2").is("through 2 0", -1).is("through 2 2", 1090);
        sharp("c4:16 -:16 d4:16", "pin 1 5").is("through 0 0", -1).is("through 0 5", 1090);
    }

    /** In the first and in the last WINDOW. */
    static void promise25_firstAndLast() {
        sharp("c4:16 c4:16 c4:16").is("through 0 7", 1040).is("through 1 7", 1080).is("through 2 7", 1040)
                .is("through 0 0", 0).is("through 2 0", 0);
    }

    // ---- unsure

    /** "at most d (0 to 9,999) more"; "-3: d". */
    static void promise26_dFrom0To9999() {
        sharp("c4:16", "weight 0 0 99").is("unsure 0 0", 1).is("unsure 0 9899", 1).is("unsure 0 9900", 24)
                .is("unsure 0 9999", 24).is("unsure 0 10000", -3).is("unsure 0 -1", -3).is("unsure 0 MIN", -3)
                .is("unsure 0 MAX", -3);
    }

    /** "costs at most d more". */
    static void promise26_justSoMuchMore() {
        sharp("c4:16 c4:16", "net 500 999 999 1").is("unsure 0 1499", 1).is("unsure 0 1500", 3)
                .is("unsure 0 1998", 3).is("unsure 0 1999", 5).is("unsure 0 2000", 24);
        sharp("c4:16 c4:16", "net 500 999 999 1", "pin 0 1").is("cost", 2000).is("unsure 1 499", 1)
                .is("unsure 1 500", 3).is("unsure 1 998", 3).is("unsure 1 999", 5).is("unsure 1 1000", 7)
                .is("unsure 1 1498", 7).is("unsure 1 1499", 11).is("unsure 1 1500", 14).is("unsure 0 9999", 1);
    }

    /** "-2: the WINDOW; -3: d; -5". */
    static void promise26_whichComesFirst() {
        run().is("unsure 0 0", -2).is("unsure 0 -1", -2);
        blocks("c4:16").is("unsure 0 0", 2).is("unsure 1 0", -2).is("unsure -1 0", -2).is("unsure 1 -1", -2)
                .is("unsure MIN 10000", -2).is("unsure MAX 0", -2);
        pathless().is("unsure 0 0", -5).is("unsure 0 9999", -5).is("unsure 0 10000", -3).is("unsure 0 -1", -3)
                .is("unsure 3 -1", -2).is("unsure 3 0", -2);
    }

    // ---- second

    /** "NONE: there is none". */
    static void promise27_thereIsNone() {
        run().is("second 0", -1).is("second 1", -1);
        sharp("c4:16 -:16 d4:16", "pin 0 0", "pin 2 2").is("second 0", -1).is("second 1", -1).does("pin 0 NONE")
                .is("second 0", 1000).is("second 1", 0);
        sharp("c4:16", "pin 0 0").is("second 0", -1).is("second 1", -1);
    }

    /** "-2; -5": what is told first. */
    static void promise27_noSuchWhat() {
        run().is("second 2", -2).is("second -1", -2).is("second MIN", -2).is("second MAX", -2);
        blocks("c4:16").is("second 2", -2).is("second -1", -2).is("second 0", 0);
        pathless().is("second 0", -5).is("second 1", -5).is("second 2", -2).is("second -1", -2);
    }

    /** One that costs as little is another one. */
    static void promise27_oneThatCostsAsLittle() {
        blocks("c4:16 c4:16").is("cost", 0).is("second 0", 0).is("second 1", 0);
        sharp("c4:16 d4:16", "net 500 999 999 1", "pin 0 0").is("cost", 1000).row("key", 0, 0)
                .is("second 0", 1000).is("second 1", 1);
    }

    /** "the first WINDOW at which some one of that COST has another KEY". */
    static void promise27_theFirstWindow() {
        sharp("c4:16 c4:16 c4:16").is("second 0", 1030).is("second 1", 0).does("pin 0 0").is("second 0", 1030)
                .is("second 1", 2).does("pin 2 0").is("second 0", 1060).is("second 1", 1);
        sharp("c4:16 c4:16 c4:16", "net 0 0 0 0", "pin 0 0").is("second 0", 1000).is("second 1", 1);
    }

    /** KEY 0 and KEY 23, too, can be the other one. */
    static void promise27_theFirstAndTheLastKey() {
        sharp("d4:16", "weight 0 2 9").is("key 0", 2).is("second 0", 100).is("second 1", 0).is("through 0 0", 100);
        sharp("d4:16", "weight 1 3 9").is("key 0", 2).is("second 0", 100).is("through 0 23", 100);
    }

    // ---- within

    /** "at most n MOVES (0 to 47)"; "-3; -5". */
    static void promise28_nFrom0To47() {
        run().is("within 0", 0).is("within 47", 0).is("within 48", -3).is("within -1", -3).is("within MIN", -3)
                .is("within MAX", -3);
        pathless().is("within 0", -5).is("within 47", -5).is("within 48", -3).is("within -1", -3);
    }

    static void promise28_fortySevenMoves() {
        manyMoves().is("cost", 47 * 4).is("segments", 48).is("within 47", 188).is("within 46", 1000 + 45 * 4)
                .is("within 45", 1000 + 45 * 4).is("within 44", 2000 + 43 * 4).is("within 1", 23000 + 4)
                .is("within 0", 24000);
    }

    /** "NONE: there is none": PINS want more. */
    static void promise28_thereIsNone() {
        sharp("c4:16 d4:16 c4:16", "pin 0 0", "pin 1 2", "pin 2 0").is("within 2", 160).is("within 1", -1)
                .is("within 0", -1).does("pin 2 NONE").is("within 1", 1080).is("within 0", -1).does("pin 1 NONE")
                .is("within 0", 1000);
    }

    /** Each number of them, and what the first WINDOW costs is told once. */
    static void promise28_eachNumber() {
        sharp("c4:16 d4:32").row("within", 1000, 80, 80);
        sharp("c4:16 d4:16 e4:16 f#4:16").row("within", 3000, 2080, 1160, 240, 240);
        sharp("c4:16 d4:16 e4:16 f#4:16", "pin 0 14").row("within", 4000, 3060, 2060 + 80, 1060 + 160);
    }

    /** At most: fewer will do. */
    static void promise28_fewerWillDo() {
        sharp("c4:16 c4:16 c4:16").is("within 0", 0).is("within 1", 0).is("within 47", 0);
        sharp("c4:16 -:16 d4:16").is("within 0", 1000).is("within 1", 80).is("within 2", 80);
    }

    // ---- lasting

    /** "m WINDOWS (1 to 16) or more"; "-3; -5". */
    static void promise29_mFrom1To16() {
        run().is("lasting 1", 0).is("lasting 16", 0).is("lasting 0", -3).is("lasting 17", -3).is("lasting -1", -3)
                .is("lasting MIN", -3).is("lasting MAX", -3);
        pathless().is("lasting 1", -5).is("lasting 16", -5).is("lasting 0", -3).is("lasting 17", -3);
    }

    /** "NONE: there is none": as many WINDOWS are not there. */
    static void promise29_soManyWindows() {
        sharp("c4:64 c4:64 c4:64 c4:48").is("count 1", 15).is("lasting 15", 0).is("lasting 16", -1)
                .does("put 240 1 60").is("count 1", 16).is("lasting 16", 0);
        sharp("c4:16").is("lasting 1", 0).is("lasting 2", -1);
    }

    /** Just m, and one less. */
    static void promise29_justSoLong() {
        sharp("c4:48 d4:48").is("lasting 3", 80).is("lasting 4", 3000).is("lasting 6", 3000).is("lasting 7", -1);
        sharp("c4:32 d4:48").is("lasting 2", 80).is("lasting 3", 2000).is("lasting 5", 2000).is("lasting 6", -1);
        sharp("c4:48 d4:32").is("lasting 2", 80).is("lasting 3", 2000);
        sharp("c4:64 d4:16 c4:64").is("lasting 1", 160).is("lasting 2", 1000);
        sharp("c4:64".repeat(4) + "d4:64".repeat(4)).is("lasting 16", 80).is("segments", 2);
    }

    /** "NONE: there is none": PINS want shorter ones. */
    static void promise29_pinsWantShorterOnes() {
        sharp("c4:48", "pin 0 0", "pin 1 2").is("lasting 1", 1080 + 80).is("lasting 2", -1);
        sharp("c4:64", "pin 0 0", "pin 3 2").is("lasting 2", 2080).is("lasting 3", -1).is("lasting 1", 1080);
    }

    /** SILENT WINDOWS count, and no SEGMENT begins at one. */
    static void promise29_silentOnes() {
        sharp("c4:16 -:32 d4:16 d4:32").is("lasting 3", 80).is("lasting 4", 1000);
        sharp("c4:16 -:32 d4:48", "pin 0 0").is("lasting 3", 80).is("lasting 2", 80);
        sharp("c4:16 -:16 d4:16", "pin 0 0", "pin 2 2").is("lasting 1", 80).is("lasting 2", -1);
    }

    // ---- firm

    /** "The least FACTOR (0 to 100) with which THE PATH has no MOVES": none are there anyway. */
    static void promise30_noMovesAnyway() {
        run().is("firm", 0);
        blocks("c4:16").is("firm", 0);
        sharp("c4:16 -:16 c4:16").is("firm", 0);
        sharp("c4:16 d4:16", "pin 0 0", "pin 1 0").is("firm", 0);
    }

    /** Up to 100, not beyond it. */
    static void promise30_from0To100() {
        sharp("c4:16 d4:16", "net 5 999 999 1").is("firm", 100).does("net 5 999 999 100").is("segments", 1)
                .is("firm", 100).does("net 5 999 999 99").is("segments", 2).is("firm", 100);
        sharp("c4:16 d4:16", "net 4 999 999 1").is("firm", -1).does("net 4 999 999 100").is("segments", 2);
        sharp("c4:16 d4:16", "net 500 999 999 1").is("firm", 1).does("net 499 999 999 1").is("firm", 2);
        sharp("c4:16 d4:16", "net 999 999 999 0").is("firm", 1).is("segments", 2);
    }

    /** Of like ones THE PATH is the first, be it one with MOVES. */
    static void promise30_ofLikeOnesTheFirst() {
        sharp("c4:16 d4:32", "net 5 999 999 1").is("firm", -1).does("net 10 999 999 1").is("firm", 51)
                .does("net 10 999 999 50").is("segments", 2).does("net 10 999 999 51").is("segments", 1);
        sharp("d4:32 c4:16", "net 10 999 999 1").is("firm", 51);
        sharp("d4:16 c4:32", "net 10 999 999 1").is("firm", 50);
    }

    /** "NONE: none": PINS want MOVES, or they cost nothing. */
    static void promise30_none() {
        sharp("c4:16 d4:16", "pin 0 0", "pin 1 2").is("firm", -1);
        sharp("c4:16 d4:16", "net 0 0 0 1").is("firm", -1);
        pathless().is("firm", -5);
    }

    /** "all else as it is". */
    static void promise30_allElseAsItIs() {
        sharp("c4:16 d4:16", "net 5 999 999 3").refuses("firm", 100);
        sharp("c4:16 d4:16", "net 5 999 999 3").is("cost", 30).is("firm", 100).is("cost", 30).is("count 11", 3)
                .is("through 0 0", 30).is("distance 0 2", 30).is("second 0", 1000).is("within 0", 1000);
    }

    // ---- segments

    static void promise31_withoutWindows() {
        run().is("segments", 0);
        run("put 0 1 60").is("segments", 1).does("drop 0").is("segments", 0);
        pathless().is("segments", -5);
    }

    static void promise31_asManyAsWindows() {
        manyMoves().is("segments", 48).does("put 192 4 60").is("segments", 48);
        sharp("c4:64 c4:64").is("segments", 1);
        sharp("c4:16 -:16 d4:16").is("segments", 2);
        sharp("c4:16 -:16 c4:16").is("segments", 1);
    }

    /** "WINDOWS .. side by side of one KEY": one KEY again later is another SEGMENT. */
    static void promise31_oneKeyAgain() {
        sharp("c4:16 d4:16 c4:16").is("segments", 3).is("segment 0 2", 0).is("segment 2 2", 0);
    }

    // ---- segment

    /** "-5; -2: the SEGMENT, what." */
    static void promise32_noSuch() {
        run().is("segment 0 0", -2);
        sharp("c4:16 d4:16").is("segment 1 0", 1).is("segment 2 0", -2).is("segment -1 0", -2)
                .is("segment MIN 0", -2).is("segment MAX 0", -2).is("segment 0 4", -2).is("segment 0 -1", -2)
                .is("segment 0 MIN", -2).is("segment 0 MAX", -2).is("segment 1 3", 16);
        pathless().is("segment 0 0", -5).is("segment -1 0", -5).is("segment 9 0", -5).is("segment 0 4", -5);
    }

    /** First and last of them; one WINDOW is first and last. */
    static void promise32_firstAndLast() {
        sharp("c4:32 -:16 d4:16 c4:32", "windows 16 16").row("segment 0", 0, 2, 0, 0).row("segment 1", 3, 3, 2, 48)
                .row("segment 2", 4, 5, 0, 64);
        manyMoves().row("segment 47", 47, 47, 6, 188).row("segment 0", 0, 0, 0, 0).is("segment 48 0", -2);
    }

    /** "the TICK at which its first WINDOW begins". */
    static void promise32_theTick() {
        sharp("c4:64 c4:64 d4:64", "windows 4 128").row("segment 1", 1, 1, 2, 128);
        sharp("c4:64".repeat(6) + "d4:64", "windows 4 128").row("segment 1", 3, 3, 2, 384);
        sharp("c4:1", "windows 4 11", "put 506 4 62").row("segment 0", 0, 45, 0, 0).row("segment 1", 46, 46, 2, 506);
    }
}
