import java.util.ArrayList;
import java.util.List;
import java.util.TreeSet;

/**
 * Every network of up to four points, and more of five to seven, in all that can be asked of it; the Oracle's own
 * words against every word that there is.
 */
public final class EveryNetworkTest {
    private static final Check CHECK = new Check("EveryNetworkTest");

    public static void main(String[] args) {
        for (int n = 0; n <= 4; n++) {
            for (int lines = 0; lines < 1 << n * (n - 1) / 2; lines++) {
                askAll(n, lines);
                everyWord(n, lines);
            }
        }
        for (int lines = 0; lines < 1 << 10; lines += 7) {
            askAll(5, lines);
        }
        for (int lines = 1000; lines < 1 << 15; lines += 1171) {
            askAll(6, lines);
        }
        for (int lines = 100_000; lines < 1 << 21; lines += 150_001) {
            askAll(7, lines);
        }
        everyFive();
        CHECK.end();
    }

    private static void due(String call, long got, long want) {
        CHECK.due(call, got, want);
    }

    private static void askAll(int n, int lines) {
        ChordWords x = new ChordWords();
        Told told = new Told();
        for (int p = 0; p < n; p++) {
            int set = lines >> p * (p - 1) / 2 & (1 << p) - 1;
            due("add", x.add(set), told.add(set));
        }
        String name = n + " points, lines " + lines + ": ";
        for (int what = 0; what < 8; what++) {
            due(name + "many(" + what + ")", x.many(what), told.many(what));
        }
        askSets(name, x, told, n);
        askPieces(name, x, told);
        askModels(name, x, told, n);
        for (int what = 0; what < 4; what++) {
            due(name + "twins(" + what + ")", x.twins(what), told.twins(what));
            due(name + "family(" + what + ")", x.family(what), told.family(what));
            due(name + "most(" + what + ")", x.most(what), told.most(what));
            due(name + "paintings(" + what + ")", x.paintings(what), told.paintings(what));
        }
        due(name + "colours()", x.colours(), told.colours());
        due(name + "obstruction()", x.obstruction(), told.obstruction());
        due(name + "status()", x.status(), told.status);
        due(name + "obstructions()", x.obstructions(), told.obstructions());
    }

    private static void askSets(String name, ChordWords x, Told told, int n) {
        for (int set = 0; set < 1 << n; set++) {
            due(name + "order(" + set + ")", x.order(set), told.order(set));
            due(name + "could(" + set + ")", x.could(set), told.could(set));
            due(name + "fits(0, " + set + ")", x.fits(0, set), told.fits(0, set));
            due(name + "gap(0, " + set + ", 1, 1)", x.gap(0, set, 1, 1), told.gap(0, set, 1, 1));
        }
        for (int i = 0; i <= told.many(4); i++) {
            due(name + "split(" + i + ")", x.split(i), told.split(i));
            due(name + "strong(" + i + ")", x.strong(i), told.strong(i));
        }
    }

    private static void askPieces(String name, ChordWords x, Told told) {
        due(name + "prime()", x.prime(), told.prime());
        due(name + "plain()", x.plain(), told.plain());
        for (int i = 0; i <= told.many(5); i++) {
            for (int k = 0; k < 8; k++) {
                due(name + "piece(" + i + ", " + k + ")", x.piece(i, k), told.piece(i, k));
                due(name + "knot(" + i + ", " + k + ")", x.knot(i, k), told.knot(i, k));
                due(name + "ties(" + i + ", " + k + ")", x.ties(i, k), told.ties(i, k));
            }
        }
    }

    private static void askModels(String name, ChordWords x, Told told, int n) {
        int models = Math.min(told.many(6), 5);
        for (int i = 0; i <= models; i++) {
            for (int place = 0; place <= 2 * n; place++) {
                due(name + "letter(" + i + ", " + place + ")", x.letter(i, place), told.letter(i, place));
            }
            for (int p = 0; p < n; p++) {
                due(name + "span(" + i + ", " + p + ")", x.span(i, p), told.span(i, p));
                due(name + "turned(" + i + ", " + p + ")", x.turned(i, p), told.turned(i, p));
            }
            due(name + "mean(" + i + ", 0)", x.mean(i, 0), told.mean(i, 0));
            due(name + "mean(" + i + ", 1)", x.mean(i, 1), told.mean(i, 1));
        }
        for (int a = 0; a < n; a++) {
            for (int b = 0; b < n; b++) {
                due(name + "beside(" + a + ", " + b + ")", x.beside(a, b), told.beside(a, b));
            }
        }
    }

    /** The models as the document says it: of all words those that cross so, the least reading of each. */
    private static void everyWord(int n, int lines) {
        Oracle.Net net = new Oracle.Net(n);
        for (int high = 1; high < n; high++) {
            for (int low = 0; low < high; low++) {
                net.set(low, high, (lines >> high * (high - 1) / 2 + low & 1) == 1);
            }
        }
        TreeSet<String> found = new TreeSet<>();
        words("", new int[n], net, found);
        List<String> models = new ArrayList<>(found);
        CHECK.due(n + " points, lines " + lines + ": models", models.equals(Oracle.models(net)), true);
    }

    private static void words(String word, int[] used, Oracle.Net net, TreeSet<String> found) {
        if (word.length() == 2 * used.length) {
            for (int high = 1; high < used.length; high++) {
                for (int low = 0; low < high; low++) {
                    if (Oracle.cross(word, (char) ('a' + low), (char) ('a' + high)) != net.line[low][high]) {
                        return;
                    }
                }
            }
            found.add(Oracle.least(word));
            return;
        }
        for (int p = 0; p < used.length; p++) {
            if (used[p] < 2) {
                used[p]++;
                words(word + (char) ('a' + p), used, net, found);
                used[p]--;
            }
        }
    }

    /** Every network of five points has a model. */
    private static void everyFive() {
        for (int lines = 0; lines < 1 << 10; lines++) {
            ChordWords x = new ChordWords();
            for (int p = 0; p < 5; p++) {
                x.add(lines >> p * (p - 1) / 2 & (1 << p) - 1);
            }
            due("five points, lines " + lines + ": obstruction()", x.obstruction(), -1);
        }
    }
}
