import java.util.ArrayList;
import java.util.List;

/** What can be told of an object, its acts and its tape used up: two objects that differ somewhere differ here. */
final class State {
    private static final int BLANKS = 0x20202020;
    private static final int FULL = 200;

    private State() {
    }

    static List<Long> whole(ChordWords x) {
        List<Long> all = faults(x);
        all.addAll(past(x));
        all.addAll(tape(x));
        return all;
    }

    static List<Long> faults(ChordWords x) {
        return new ArrayList<>(List.of((long) x.fault(0), (long) x.fault(1)));
    }

    /** The network and the images, and again behind each act that is undone. */
    static List<Long> past(ChordWords x) {
        List<Long> all = new ArrayList<>();
        for (int i = 0; i < 13; i++) {
            addNetwork(x, all);
            addImages(x, all);
            all.add((long) x.undo());
        }
        return all;
    }

    static List<Long> network(ChordWords x) {
        List<Long> all = new ArrayList<>();
        addNetwork(x, all);
        return all;
    }

    private static void addNetwork(ChordWords x, List<Long> all) {
        all.add((long) x.many(0));
        all.add((long) x.many(1));
        all.add((long) x.many(3));
        for (int p = 0; p < 7; p++) {
            all.add((long) x.near(p));
        }
    }

    private static void addImages(ChordWords x, List<Long> all) {
        for (int k = 0; k < 3; k++) {
            all.add((long) x.like(k));
        }
    }

    /** How many bytes there are, which letters stand just twice in the first of them, and what they are as a text. */
    static List<Long> tape(ChordWords x) {
        List<Long> all = new ArrayList<>();
        for (int n = 0; n <= 20; n++) {
            for (int letter = 0; letter < 4; letter++) {
                x.cross(n, letter, letter);
                all.add((long) x.status());
            }
        }
        int more = x.feed(BLANKS, BLANKS, BLANKS, BLANKS, BLANKS);
        int length = more < 0 ? FULL : more - 20;
        all.add((long) length);
        all.add((long) x.load(length));
        all.addAll(faults(x));
        addNetwork(x, all);
        return all;
    }
}
