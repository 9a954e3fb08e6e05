import java.util.ArrayList;
import java.util.List;

/** What is asked to see whether two objects are in one state; each list for an object of its own, for some undo. */
final class Questions {
    static final List<List<String>> BUT_TAPE = List.of(notes(), windows(), terms(), acts(), path(), chords());
    static final List<List<String>> ALL = withTape();

    private Questions() {
    }

    private static List<List<String>> withTape() {
        List<List<String>> all = new ArrayList<>(BUT_TAPE);
        all.add(tape());
        return all;
    }

    private static void add(List<String> list, String text, int many) {
        for (int i = 0; i < many; i++) {
            list.add(text.replace("#", "" + i));
        }
    }

    private static List<String> notes() {
        List<String> list = new ArrayList<>();
        add(list, "count #", 4);
        add(list, "note # 0", 100);
        add(list, "note # 1", 100);
        add(list, "note # 2", 100);
        return list;
    }

    private static List<String> windows() {
        List<String> list = new ArrayList<>();
        add(list, "tones # NONE", 48);
        add(list, "chord #", 48);
        add(list, "key #", 48);
        add(list, "ranked # 0", 48);
        add(list, "count #", 12);
        return list;
    }

    private static List<String> terms() {
        List<String> list = new ArrayList<>();
        add(list, "distance 0 #", 24);
        add(list, "pin # NONE", 48);
        add(list, "weight 0 # 0", 12);
        add(list, "weight 1 # 0", 12);
        list.add("net 1 1 1 1");
        list.add("windows 4 128");
        return list;
    }

    private static List<String> acts() {
        List<String> list = new ArrayList<>();
        for (int i = 0; i < 11; i++) {
            list.add("undo");
            list.add("count 0");
            list.add("count 2");
            add(list, "note 0 #", 3);
            add(list, "note 1 #", 3);
        }
        return list;
    }

    private static List<String> path() {
        List<String> list = new ArrayList<>(List.of("cost", "ties", "firm", "segments", "second 0", "second 1"));
        add(list, "within #", 4);
        add(list, "lasting #", 5);
        add(list, "through 0 #", 24);
        add(list, "unsure # 500", 4);
        add(list, "segment # 0", 5);
        add(list, "segment # 2", 5);
        return list;
    }

    private static List<String> chords() {
        List<String> list = new ArrayList<>(List.of("close", "outside", "progression NONE", "confirmed 0"));
        add(list, "roman #", 48);
        add(list, "pivot # 0", 4);
        add(list, "overall #", 24);
        add(list, "learnt 0 #", 12);
        add(list, "learnt 1 #", 12);
        return list;
    }

    /** The tape can be seen only by loading it. */
    private static List<String> tape() {
        List<String> list = new ArrayList<>(List.of("fault 0", "fault 1", "count 4", "load ALL", "fault 0", "fault 1"));
        add(list, "note # 0", 20);
        add(list, "note # 1", 20);
        add(list, "note # 2", 20);
        return list;
    }
}
