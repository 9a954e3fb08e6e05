/** What the tests of boundaries begin with. */
abstract class Boundaries {
    static final Checker CHECKER = new Checker();

    static Run run(String... past) {
        return Run.of(CHECKER, past);
    }

    /** Windows of 16 ticks side by side. */
    static Run blocks(String text, String... more) {
        return run("windows 16 16", "text " + text).does(more);
    }

    /** All WEIGHTS 0 but those that come behind it. */
    static Run flat(String... past) {
        Run x = run();
        for (int step = 0; step < 12; step++) {
            x.does("weight 0 " + step + " 0", "weight 1 " + step + " 0");
        }
        return x.does(past);
    }

    /** Notes, acts, pins and terms that are not the first ones: what a refused call must leave as it is. */
    static Run busy() {
        return run("windows 12 20", "text (c4 e4 g4):16 -:24 (g3 b3 d4):16 (f4 a4 c4):10", "put 3 5 70", "shift 2",
                "drop 1", "pin 1 4", "pin 47 9", "weight 1 3 50", "net 30 20 50 2");
    }

    /** The same with a text on the tape: "c4:1". */
    static Run busyTape() {
        return busy().does("feed 1664367153 0 0 0 0");
    }

    /** No PATH: a silent window is pinned otherwise than the one ahead. */
    static Run pathless() {
        return blocks("c4:16 -:16 c4:16", "pin 0 0", "pin 1 7");
    }
}
