import java.util.Arrays;

/**
 * Every chord word of up to six points that is its own least reading, sorted by the network of its crossings: these
 * are the models of that network, none more and none less, and they rise. The words are made letter by letter, so each
 * network's come in their order; their letters go into one number, network by network.
 */
public final class AllWordsTest {
    private static final Check CHECK = new Check("AllWordsTest");
    private static final int MOST_POINTS = 6;
    private static final int MOST_ASKED = 480;
    private static final long BASE = 1_000_003;

    private final int points;
    private final int[] row;
    private final int[] left;
    private final int[] counts;
    private final long[] sums;
    private int words;

    private AllWordsTest(int points) {
        this.points = points;
        row = new int[2 * points];
        left = new int[points];
        counts = new int[1 << points * (points - 1) / 2];
        sums = new long[counts.length];
    }

    public static void main(String[] args) {
        for (int points = 0; points <= MOST_POINTS; points++) {
            new AllWordsTest(points).run();
        }
        CHECK.end();
    }

    private void run() {
        Arrays.fill(left, 2);
        extend(0);
        CHECK.due("words of " + points + " points", words, leastReadings(points));
        int models = 0;
        for (int lines = 0; lines < counts.length; lines++) {
            models += askModels(lines);
        }
        CHECK.due("models of all networks of " + points, models, leastReadings(points));
    }

    /** Burnside's lemma: besides staying as it is, only half a round and the mirrors leave a word alike, n! of them each. */
    private static long leastReadings(int points) {
        if (points == 0) {
            return 1;
        }
        long all = 1;
        long alike = 1;
        for (int i = 1; i <= points; i++) {
            all = all * (2 * i) * (2 * i - 1) / 2;
            alike *= i;
        }
        return (all + (1 + 2 * points) * alike) / (4 * points);
    }

    private void extend(int place) {
        if (place == row.length) {
            if (isLeast()) {
                count();
            }
            return;
        }
        for (int letter = 0; letter < points; letter++) {
            if (left[letter] > 0) {
                left[letter]--;
                row[place] = letter;
                extend(place + 1);
                left[letter]++;
            }
        }
    }

    private boolean isLeast() {
        for (int from = 0; from < row.length; from++) {
            if (readsLess(from, 1) || readsLess(from, row.length - 1)) {
                return false;
            }
        }
        return true;
    }

    private boolean readsLess(int from, int step) {
        for (int i = 0; i < row.length; i++) {
            int letter = row[(from + i * step) % row.length];
            if (letter != row[i]) {
                return letter < row[i];
            }
        }
        return false;
    }

    private void count() {
        int lines = 0;
        for (int high = 1; high < points; high++) {
            for (int low = 0; low < high; low++) {
                lines |= crossing(low, high) ? 1 << high * (high - 1) / 2 + low : 0;
            }
        }
        words++;
        counts[lines]++;
        for (int letter : row) {
            sums[lines] = sums[lines] * BASE + letter;
        }
    }

    private boolean crossing(int a, int b) {
        String order = "";
        for (int letter : row) {
            order += letter == a ? "a" : letter == b ? "b" : "";
        }
        return order.equals("abab") || order.equals("baba");
    }

    private int askModels(int lines) {
        ChordWords x = made(lines);
        int models = x.many(6);
        String name = points + " points, lines " + lines + ": ";
        CHECK.due(name + "models", models, counts[lines]);
        long sum = 0;
        int asked = 0;
        for (int i = 0; i < models; i++) {
            for (int place = 0; place < row.length; place++) {
                if (++asked % MOST_ASKED == 0) {
                    x = made(lines);
                }
                sum = sum * BASE + x.letter(i, place);
            }
        }
        CHECK.due(name + "their letters", sum, sums[lines]);
        return models;
    }

    private ChordWords made(int lines) {
        ChordWords x = new ChordWords();
        for (int p = 0; p < points; p++) {
            x.add(lines >> p * (p - 1) / 2 & (1 << p) - 1);
        }
        return x;
    }
}
