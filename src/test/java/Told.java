import java.util.ArrayList;
import java.util.List;
import java.util.Map;

/** The calls of the document over the Oracle: each answers, and leaves its STATUS. */
final class Told {
    static final int NONE = -1;
    int status;
    private Oracle.Net net = new Oracle.Net(0);
    private final List<Oracle.Net> past = new ArrayList<>();
    private final Oracle.Net[] images = new Oracle.Net[3];
    private String tape = "";
    private Oracle.Text read;

    int points() {
        return net.points();
    }

    int lines() {
        return net.lines();
    }

    private int no(int why) {
        status = why;
        return NONE;
    }

    private int yes(int value) {
        status = 0;
        return value;
    }

    private int yes(boolean value) {
        return yes(value ? 1 : 0);
    }

    private boolean point(int p) {
        return p >= 0 && p < net.points();
    }

    private boolean set(int set) {
        return set >= 0 && set < Math.pow(2, net.points());
    }

    private boolean out(int value, int least, int most) {
        return value < least || value > most;
    }

    private void act(Oracle.Net next) {
        past.add(net);
        if (past.size() > 12) {
            past.remove(0);
        }
        net = next;
    }

    int feed(int... ints) {
        StringBuilder more = new StringBuilder(tape);
        for (int four : ints) {
            more.append((char) (four >>> 24)).append((char) (four >>> 16 & 255)).append((char) (four >>> 8 & 255))
                    .append((char) (four & 255));
        }
        if (more.length() > 200) {
            return NONE;
        }
        tape = more.toString();
        return tape.length();
    }

    int load(int n) {
        if (out(n, 0, tape.length())) {
            return no(1);
        }
        read = Oracle.read(tape.substring(0, n));
        tape = "";
        if (read.fault != 0) {
            return no(9);
        }
        act(read.net);
        return yes(net.points());
    }

    int fault(int what) {
        if (read == null || out(what, 0, 1)) {
            return NONE;
        }
        return what == 0 ? read.fault : read.place;
    }

    int many(int what) {
        switch (what) {
            case 0:
                return yes(net.points());
            case 1:
                return yes(net.lines());
            case 2:
                return yes(net.joinedSets().size());
            case 3:
                return yes(past.size());
            case 4:
                return yes(net.splits().size());
            case 5:
                return yes(Oracle.pieces(net).size());
            case 6:
                return yes(Oracle.models(net).size());
            case 7:
                return yes(Oracle.family(net).size());
            default:
                return no(1);
        }
    }

    int near(int p) {
        return point(p) ? yes(net.near(p)) : no(2);
    }

    int add(int set) {
        if (!set(set)) {
            return no(1);
        }
        if (net.points() == 7) {
            return no(3);
        }
        Oracle.Net more = net.more(1);
        for (int p : Oracle.members(set)) {
            more.set(p, net.points(), true);
        }
        act(more);
        return yes(net.points() - 1);
    }

    int drop(int p) {
        if (!point(p)) {
            return no(2);
        }
        List<Integer> kept = net.everyOne();
        kept.remove(p);
        act(net.part(kept));
        return yes(net.points());
    }

    private int couple(int a, int b) {
        return !point(a) || !point(b) ? 2 : a == b ? 4 : 0;
    }

    int flip(int a, int b) {
        if (couple(a, b) != 0) {
            return no(couple(a, b));
        }
        Oracle.Net other = net.copy();
        other.set(a, b, !net.line[a][b]);
        act(other);
        return yes(net.line[a][b]);
    }

    int turn(int p) {
        if (!point(p)) {
            return no(2);
        }
        act(net.turned(p));
        return yes(net.lines());
    }

    int swing(int a, int b) {
        if (couple(a, b) != 0) {
            return no(couple(a, b));
        }
        if (!net.line[a][b]) {
            return no(5);
        }
        act(net.swung(a, b));
        return yes(net.lines());
    }

    boolean rename(int a, int b) {
        status = couple(a, b);
        if (status != 0) {
            return false;
        }
        List<Integer> names = net.everyOne();
        java.util.Collections.swap(names, a, b);
        act(net.part(names));
        return true;
    }

    int undo() {
        if (past.isEmpty()) {
            return no(6);
        }
        net = past.remove(past.size() - 1);
        return yes(past.size());
    }

    boolean image(int k) {
        status = out(k, 0, 2) ? 1 : 0;
        if (status == 0) {
            images[k] = net;
        }
        return status == 0;
    }

    int like(int k) {
        if (out(k, 0, 2) || images[k] == null) {
            return no(out(k, 0, 2) ? 1 : 8);
        }
        return yes(images[k].key().equals(net.key()));
    }

    int order(int set) {
        return set(set) ? yes(net.order(set)) : no(1);
    }

    private int noSplit(int i) {
        return i < 0 ? 1 : !net.joined() ? 7 : i >= net.splits().size() ? 6 : 0;
    }

    int split(int i) {
        return noSplit(i) != 0 ? no(noSplit(i)) : yes(net.splits().get(i));
    }

    int strong(int i) {
        return noSplit(i) != 0 ? no(noSplit(i)) : yes(net.strong(i));
    }

    int prime() {
        return yes(net.prime());
    }

    int piece(int i, int what) {
        List<Oracle.Piece> pieces = Oracle.pieces(net);
        if (i < 0 || out(what, 0, 2) || i >= pieces.size()) {
            return no(i < 0 || out(what, 0, 2) ? 1 : 6);
        }
        Oracle.Piece piece = pieces.get(i);
        if (what == 2) {
            return yes((int) piece.knots.stream().filter(k -> k >= 10).count());
        }
        return yes(what == 0 ? piece.kind() : piece.knots.size());
    }

    private Oracle.Piece withKnot(int i, int k) {
        List<Oracle.Piece> pieces = Oracle.pieces(net);
        status = i < 0 || k < 0 ? 1 : i >= pieces.size() || k >= pieces.get(i).knots.size() ? 6 : 0;
        return status == 0 ? pieces.get(i) : null;
    }

    int knot(int i, int k) {
        Oracle.Piece piece = withKnot(i, k);
        return piece == null ? NONE : piece.knots.get(k);
    }

    int ties(int i, int k) {
        Oracle.Piece piece = withKnot(i, k);
        return piece == null ? NONE : piece.net.near(k);
    }

    int plain() {
        return yes(Oracle.pieces(net).stream().noneMatch(p -> p.kind() == 4));
    }

    int twins(int what) {
        switch (what) {
            case 0:
            case 1:
                return yes(Oracle.twins(net, what == 1));
            case 2:
                return yes((int) net.everyOne().stream().filter(p -> Integer.bitCount(net.near(p)) == 1).count());
            case 3:
                int sum = 0;
                for (int i = 0; i < net.splits().size(); i++) {
                    sum += net.strong(i) ? 1 : 0;
                }
                return yes(sum);
            default:
                return no(1);
        }
    }

    int most(int what) {
        return out(what, 0, 1) ? no(1) : yes(Oracle.most(net, what == 0));
    }

    int colours() {
        for (int k = 0; ; k++) {
            if (Oracle.paintings(net, k) > 0) {
                return yes(k);
            }
        }
    }

    long paintings(int colours) {
        if (out(colours, 0, 9)) {
            return no(1);
        }
        status = 0;
        return Oracle.paintings(net, colours);
    }

    private String word(int i) {
        List<String> models = Oracle.models(net);
        return i >= 0 && i < models.size() ? models.get(i) : null;
    }

    int letter(int i, int place) {
        if (i < 0 || place < 0) {
            return no(1);
        }
        return word(i) == null || place >= word(i).length() ? no(6) : yes(word(i).charAt(place) - 'a');
    }

    int span(int i, int p) {
        if (i < 0 || !point(p)) {
            return no(i < 0 ? 1 : 2);
        }
        return word(i) == null ? no(6) : yes(Oracle.span(word(i), p));
    }

    int mean(int i, int what) {
        if (i < 0 || out(what, 0, 1)) {
            return no(1);
        }
        if (word(i) == null) {
            return no(6);
        }
        return yes(Float.floatToIntBits(what == 0 ? Oracle.mean(word(i)) : Oracle.even(word(i))));
    }

    int find(int n) {
        if (out(n, 0, tape.length())) {
            return no(1);
        }
        List<String> models = Oracle.models(net);
        for (String reading : Oracle.readings(tape.substring(0, n))) {
            if (models.contains(reading)) {
                tape = "";
                return yes(models.indexOf(reading));
            }
        }
        return no(6);
    }

    int cross(int n, int a, int b) {
        if (out(n, 0, tape.length()) || out(a, 0, 25) || out(b, 0, 25)) {
            return no(1);
        }
        String word = tape.substring(0, n);
        for (char c : new char[] {(char) ('a' + a), (char) ('a' + b)}) {
            if (word.chars().filter(d -> d == c).count() != 2) {
                return no(2);
            }
        }
        if (a == b) {
            return no(4);
        }
        tape = "";
        return yes(Oracle.cross(word, (char) ('a' + a), (char) ('a' + b)));
    }

    int fits(int i, int set) {
        if (i < 0 || !set(set)) {
            return no(1);
        }
        return word(i) == null ? no(6) : yes(Oracle.couples(word(i), set).size());
    }

    int gap(int i, int set, int j, int what) {
        if (i < 0 || !set(set) || j < 0 || out(what, 0, 1)) {
            return no(1);
        }
        if (word(i) == null || j >= Oracle.couples(word(i), set).size()) {
            return no(6);
        }
        return yes(Oracle.couples(word(i), set).get(j)[what]);
    }

    int could(int set) {
        if (!set(set)) {
            return no(1);
        }
        return yes((int) Oracle.models(net).stream().filter(w -> !Oracle.couples(w, set).isEmpty()).count());
    }

    int beside(int a, int b) {
        if (couple(a, b) != 0) {
            return no(couple(a, b));
        }
        return yes((int) Oracle.models(net).stream().filter(w -> Oracle.beside(w, a, b)).count());
    }

    int turned(int i, int p) {
        if (i < 0 || !point(p)) {
            return no(i < 0 ? 1 : 2);
        }
        if (word(i) == null) {
            return no(6);
        }
        return yes(Oracle.models(net.turned(p)).indexOf(Oracle.least(Oracle.turned(word(i), p))));
    }

    int obstruction() {
        List<Integer> sets = Oracle.obstructions(net);
        return sets.isEmpty() ? no(6) : yes(sets.get(0));
    }

    int obstructions() {
        List<Integer> sets = Oracle.obstructions(net);
        return sets.isEmpty() ? no(6) : yes(sets.size());
    }

    int family(int what) {
        List<Integer> sizes = new ArrayList<>();
        for (Oracle.Met met : Oracle.family(net).values()) {
            sizes.add(met.net.lines());
        }
        java.util.Collections.sort(sizes);
        switch (what) {
            case 0:
                return yes(sizes.get(0));
            case 1:
                return yes(sizes.get(sizes.size() - 1));
            case 2:
                return yes(java.util.Collections.frequency(sizes, sizes.get(0)));
            case 3:
                return yes(sizes.stream().mapToInt(s -> s).sum());
            default:
                return no(1);
        }
    }

    int turns(int k) {
        if (out(k, 0, 2) || images[k] == null) {
            return no(out(k, 0, 2) ? 1 : 8);
        }
        if (images[k].points() != net.points()) {
            return no(7);
        }
        Oracle.Met met = Oracle.family(net).get(images[k].key());
        return met == null ? no(6) : yes(met.turns);
    }

    int within(int k) {
        if (out(k, 0, 2) || images[k] == null) {
            return no(out(k, 0, 2) ? 1 : 8);
        }
        if (images[k].points() > net.points()) {
            return no(7);
        }
        for (Map.Entry<String, Oracle.Met> met : Oracle.family(net).entrySet()) {
            Oracle.Net part = met.getValue().net.part(net.everyOne().subList(0, images[k].points()));
            if (part.key().equals(images[k].key())) {
                return yes(1);
            }
        }
        return yes(0);
    }

    int shuffle(int seed, int n) {
        if (out(seed, 0, 9999) || out(n, 0, 7)) {
            return no(1);
        }
        act(Oracle.drawn(seed, n, 1).get(0));
        return yes(net.lines());
    }

    int sample(int seed, int n, int m, int what) {
        if (out(seed, 0, 9999) || out(n, 0, 7) || out(m, 1, 40) || out(what, 0, 3)) {
            return no(1);
        }
        List<Oracle.Net> nets = Oracle.drawn(seed, n, m);
        int lines = nets.stream().mapToInt(Oracle.Net::lines).sum();
        switch (what) {
            case 0:
                return yes(lines);
            case 1:
                return yes((int) nets.stream().filter(Oracle.Net::joined).count());
            case 2:
                return yes((int) nets.stream().filter(Oracle.Net::prime).count());
            default:
                float pairs = (float) (m * n * (n - 1) / 2);
                return yes(Float.floatToIntBits(pairs == 0 ? 0 : (float) lines / pairs));
        }
    }
}
