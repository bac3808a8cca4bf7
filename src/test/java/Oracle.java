import java.util.ArrayDeque;
import java.util.ArrayList;
import java.util.Arrays;
import java.util.HashMap;
import java.util.HashSet;
import java.util.LinkedHashMap;
import java.util.List;
import java.util.Map;
import java.util.Set;
import java.util.TreeSet;

/**
 * The document told a second time, as plainly as its words go and by other ways than the class takes: texts, sets and
 * maps in place of bits, every reading of a word tried, models by putting one point more into the models of one less.
 */
final class Oracle {
    static final int NONE = -1;
    private static final Map<String, List<String>> MODELS = new HashMap<>();

    /** A network: a table of which two have a line. */
    static final class Net {
        final boolean[][] line;

        Net(int points) {
            line = new boolean[points][points];
        }

        int points() {
            return line.length;
        }

        Net copy() {
            return part(everyOne());
        }

        List<Integer> everyOne() {
            List<Integer> all = new ArrayList<>();
            for (int p = 0; p < points(); p++) {
                all.add(p);
            }
            return all;
        }

        Net part(List<Integer> kept) {
            Net part = new Net(kept.size());
            for (int a = 0; a < kept.size(); a++) {
                for (int b = 0; b < kept.size(); b++) {
                    part.line[a][b] = line[kept.get(a)][kept.get(b)];
                }
            }
            return part;
        }

        Net more(int points) {
            Net more = new Net(points() + points);
            for (int a = 0; a < points(); a++) {
                System.arraycopy(line[a], 0, more.line[a], 0, points());
            }
            return more;
        }

        void set(int a, int b, boolean there) {
            line[a][b] = there;
            line[b][a] = there;
        }

        Net turned(int p) {
            Net turned = copy();
            for (int a = 0; a < points(); a++) {
                for (int b = a + 1; b < points(); b++) {
                    if (line[p][a] && line[p][b]) {
                        turned.set(a, b, !line[a][b]);
                    }
                }
            }
            return turned;
        }

        Net swung(int a, int b) {
            int low = Math.min(a, b);
            return turned(low).turned(Math.max(a, b)).turned(low);
        }

        int lines() {
            int sum = 0;
            for (int a = 0; a < points(); a++) {
                for (int b = 0; b < a; b++) {
                    sum += line[a][b] ? 1 : 0;
                }
            }
            return sum;
        }

        int near(int p) {
            int set = 0;
            for (int q = 0; q < points(); q++) {
                set += line[p][q] ? 1 << q : 0;
            }
            return set;
        }

        String key() {
            return points() + Arrays.deepToString(line);
        }

        List<Set<Integer>> joinedSets() {
            List<Set<Integer>> sets = new ArrayList<>();
            Set<Integer> met = new HashSet<>();
            for (int p = 0; p < points(); p++) {
                if (!met.contains(p)) {
                    Set<Integer> set = new TreeSet<>();
                    ArrayDeque<Integer> open = new ArrayDeque<>(List.of(p));
                    while (!open.isEmpty()) {
                        int q = open.poll();
                        if (set.add(q)) {
                            for (int r = 0; r < points(); r++) {
                                if (line[q][r]) {
                                    open.add(r);
                                }
                            }
                        }
                    }
                    met.addAll(set);
                    sets.add(set);
                }
            }
            return sets;
        }

        boolean joined() {
            return joinedSets().size() <= 1;
        }

        /** As many different sums of rows as two to the rank. */
        int order(int set) {
            Set<Integer> sums = new HashSet<>(List.of(0));
            for (int p = 0; p < points(); p++) {
                if ((set >> p & 1) == 1) {
                    for (int sum : new ArrayList<>(sums)) {
                        sums.add(sum ^ near(p) & ~set);
                    }
                }
            }
            int rank = 0;
            while (1 << rank < sums.size()) {
                rank++;
            }
            return rank;
        }

        List<Integer> splits() {
            List<Integer> splits = new ArrayList<>();
            for (int set = 0; joined() && set < 1 << points(); set++) {
                int size = Integer.bitCount(set);
                if ((set & 1) == 1 && size >= 2 && points() - size >= 2 && order(set) == 1) {
                    splits.add(set);
                }
            }
            return splits;
        }

        boolean strong(int i) {
            List<Integer> splits = splits();
            int all = (1 << points()) - 1;
            int one = splits.get(i);
            for (int j = 0; j < splits.size(); j++) {
                int other = splits.get(j);
                boolean fine = j == i;
                for (int side : new int[] {other, all - other}) {
                    fine |= (side | one) == one || (side | all - one) == all - one;
                }
                if (!fine) {
                    return false;
                }
            }
            return true;
        }

        boolean prime() {
            return points() >= 5 && joined() && splits().isEmpty();
        }
    }

    /** A piece: its knots, and a network of them by their places. */
    static final class Piece {
        final List<Integer> knots;
        final Net net;

        Piece(List<Integer> knots, Net net) {
            this.knots = knots;
            this.net = net;
        }

        int kind() {
            if (net.prime()) {
                return 4;
            }
            switch (knots.size()) {
                case 1:
                    return 0;
                case 2:
                    return 1;
                case 3:
                    return net.lines();
                default:
                    throw new IllegalStateException("a piece of no kind");
            }
        }

        Piece side(List<Integer> kept, int mark) {
            List<Integer> names = new ArrayList<>();
            Net side = net.part(kept).more(1);
            for (int k = 0; k < kept.size(); k++) {
                names.add(knots.get(kept.get(k)));
                for (int away = 0; away < net.points(); away++) {
                    if (!kept.contains(away) && net.line[kept.get(k)][away]) {
                        side.set(k, kept.size(), true);
                    }
                }
            }
            names.add(mark);
            return new Piece(names, side);
        }
    }

    static List<Piece> pieces(Net net) {
        List<Piece> pieces = new ArrayList<>();
        for (Set<Integer> set : net.joinedSets()) {
            List<Integer> kept = new ArrayList<>(set);
            pieces.add(new Piece(kept, net.part(kept)));
        }
        int mark = 10;
        for (int i = 0; i < pieces.size(); i++) {
            Piece piece = pieces.get(i);
            if (!piece.net.splits().isEmpty()) {
                int set = piece.net.splits().get(0);
                List<Integer> in = new ArrayList<>();
                List<Integer> out = new ArrayList<>();
                for (int place = 0; place < piece.knots.size(); place++) {
                    ((set >> place & 1) == 1 ? in : out).add(place);
                }
                pieces.set(i, piece.side(in, mark));
                pieces.add(piece.side(out, mark));
                mark++;
                i = -1;
            }
        }
        return pieces;
    }

    // ---- words: texts of the letters a, b, c ..

    static boolean cross(String word, char a, char b) {
        String between = word.substring(word.indexOf(a) + 1, word.lastIndexOf(a));
        return between.indexOf(b) >= 0 && between.indexOf(b) == between.lastIndexOf(b);
    }

    static List<String> readings(String word) {
        List<String> readings = new ArrayList<>(List.of(word));
        String back = new StringBuilder(word).reverse().toString();
        for (int i = 0; i < word.length(); i++) {
            readings.add(word.substring(i) + word.substring(0, i));
            readings.add(back.substring(i) + back.substring(0, i));
        }
        return readings;
    }

    static String least(String word) {
        return new TreeSet<>(readings(word)).first();
    }

    /** The letters that stand just once between two gaps. */
    static int once(String word, int a, int b) {
        int set = 0;
        String between = word.substring(a, b);
        for (char c : between.toCharArray()) {
            if (between.indexOf(c) == between.lastIndexOf(c)) {
                set |= 1 << c - 'a';
            }
        }
        return set;
    }

    static List<int[]> couples(String word, int set) {
        List<int[]> couples = new ArrayList<>();
        for (int a = 0; a <= word.length(); a++) {
            for (int b = a; b <= word.length(); b++) {
                if (once(word, a, b) == set) {
                    couples.add(new int[] {a, b});
                }
            }
        }
        return couples;
    }

    static List<String> models(Net net) {
        List<String> known = MODELS.get(net.key());
        if (known != null) {
            return known;
        }
        TreeSet<String> found = new TreeSet<>();
        int last = net.points() - 1;
        if (last < 0) {
            found.add("");
        } else {
            char letter = (char) ('a' + last);
            for (String word : models(net.part(net.everyOne().subList(0, last)))) {
                for (int[] gaps : couples(word, net.near(last))) {
                    found.add(least(word.substring(0, gaps[0]) + letter + word.substring(gaps[0], gaps[1]) + letter
                            + word.substring(gaps[1])));
                }
            }
        }
        List<String> models = new ArrayList<>(found);
        MODELS.put(net.key(), models);
        return models;
    }

    static int span(String word, int point) {
        int apart = word.lastIndexOf('a' + point) - word.indexOf('a' + point);
        return Math.min(apart, word.length() - apart);
    }

    static float mean(String word) {
        int points = word.length() / 2;
        int sum = 0;
        for (int p = 0; p < points; p++) {
            sum += span(word, p);
        }
        return points == 0 ? 0 : (float) sum / (float) points;
    }

    static float even(String word) {
        TreeSet<Integer> spans = new TreeSet<>();
        for (int p = 0; p < word.length() / 2; p++) {
            spans.add(span(word, p));
        }
        return spans.isEmpty() ? 1 : (float) spans.first() / (float) spans.last();
    }

    static String turned(String word, int point) {
        int from = word.indexOf('a' + point) + 1;
        int to = word.lastIndexOf('a' + point);
        return word.substring(0, from) + new StringBuilder(word.substring(from, to)).reverse() + word.substring(to);
    }

    static boolean beside(String word, int a, int b) {
        String round = word + word.charAt(0);
        String couple = "" + (char) ('a' + a) + (char) ('a' + b);
        return round.contains(couple) || round.contains(new StringBuilder(couple).reverse());
    }

    /** All sets of the obstruction's size whose part has no model. */
    static List<Integer> obstructions(Net net) {
        for (int size = 0; size <= net.points(); size++) {
            List<Integer> sets = new ArrayList<>();
            for (int set = 0; set < 1 << net.points(); set++) {
                if (Integer.bitCount(set) == size && models(net.part(members(set))).isEmpty()) {
                    sets.add(set);
                }
            }
            if (!sets.isEmpty()) {
                return sets;
            }
        }
        return List.of();
    }

    static List<Integer> members(int set) {
        List<Integer> members = new ArrayList<>();
        for (int p = 0; p < 31; p++) {
            if ((set >> p & 1) == 1) {
                members.add(p);
            }
        }
        return members;
    }

    // ---- turned

    static final class Met {
        final Net net;
        final int turns;

        Met(Net net, int turns) {
            this.net = net;
            this.turns = turns;
        }
    }

    static Map<String, Met> family(Net net) {
        Map<String, Met> family = new LinkedHashMap<>();
        ArrayDeque<Met> open = new ArrayDeque<>();
        open.add(new Met(net, 0));
        while (!open.isEmpty()) {
            Met met = open.poll();
            if (family.putIfAbsent(met.net.key(), met) == null) {
                for (int p = 0; p < net.points(); p++) {
                    open.add(new Met(met.net.turned(p), met.turns + 1));
                }
            }
        }
        return family;
    }

    // ---- counts

    /** By a line taken out, less by its two points made one. */
    static long paintings(Net net, int colours) {
        for (int a = 0; a < net.points(); a++) {
            for (int b = a + 1; b < net.points(); b++) {
                if (net.line[a][b]) {
                    Net without = net.copy();
                    without.set(a, b, false);
                    Net one = without.copy();
                    for (int c = 0; c < net.points(); c++) {
                        if (c != a && one.line[b][c]) {
                            one.set(a, c, true);
                        }
                    }
                    List<Integer> kept = one.everyOne();
                    kept.remove(Integer.valueOf(b));
                    return paintings(without, colours) - paintings(one.part(kept), colours);
                }
            }
        }
        long product = 1;
        for (int p = 0; p < net.points(); p++) {
            product *= colours;
        }
        return product;
    }

    static int most(Net net, boolean tied) {
        int best = 0;
        for (int set = 0; set < 1 << net.points(); set++) {
            boolean fine = true;
            for (int a : members(set)) {
                for (int b : members(set)) {
                    fine &= a == b || net.line[a][b] == tied;
                }
            }
            if (fine && Integer.bitCount(set) > Integer.bitCount(best)) {
                best = set;
            }
        }
        return best;
    }

    static int twins(Net net, boolean tied) {
        int sum = 0;
        for (int a = 0; a < net.points(); a++) {
            for (int b = a + 1; b < net.points(); b++) {
                boolean alike = true;
                for (int c = 0; c < net.points(); c++) {
                    alike &= c == a || c == b || net.line[a][c] == net.line[b][c];
                }
                sum += alike && net.line[a][b] == tied ? 1 : 0;
            }
        }
        return sum;
    }

    // ---- texts

    static final class Text {
        final Net net;
        final int fault;
        final int place;

        Text(Net net, int fault, int place) {
            this.net = net;
            this.fault = fault;
            this.place = place;
        }
    }

    /** Every token with its place, then every kind of fault at each, the least first. */
    static Text read(String text) {
        List<String> tokens = new ArrayList<>();
        List<Integer> places = new ArrayList<>();
        java.util.regex.Matcher m = java.util.regex.Pattern.compile("[a-z]+|[0-9]+|;|[^ \\n]", java.util.regex.Pattern.DOTALL)
                .matcher(text);
        while (m.find()) {
            tokens.add(m.group());
            places.add(m.start());
        }
        tokens.add("");
        places.add(text.length());
        Net net = new Net(0);
        int step = 0;
        String head = "";
        int first = 0;
        for (int i = 0; i < tokens.size(); i++) {
            String token = tokens.get(i);
            int place = places.get(i);
            if (!token.isEmpty() && !token.matches("[a-z]+|[0-9]|;")) {
                return new Text(null, 1, place);
            }
            if (step == 0 && token.isEmpty()) {
                return new Text(net, 0, NONE);
            }
            String wanted = step == 0 ? "points|line|cross|turn|swing" : step > last(head) ? ";"
                    : head.equals("cross") ? "[a-z]+" : "[0-9]";
            if (!token.matches(wanted)) {
                return new Text(null, 2, place);
            }
            if (step == 0) {
                head = token;
                step = 1;
                continue;
            }
            if (token.equals(";")) {
                step = 0;
                continue;
            }
            int fault = 0;
            if (head.equals("points")) {
                int more = Integer.parseInt(token);
                if (net.points() + more > 7) {
                    fault = 6;
                } else {
                    net = net.more(more);
                }
            } else if (head.equals("cross")) {
                int more = (int) token.chars().distinct().count();
                if (net.points() + more > 7) {
                    fault = 6;
                } else if (!chordWord(token, more)) {
                    fault = 7;
                } else {
                    int old = net.points();
                    net = net.more(more);
                    for (int a = 0; a < more; a++) {
                        for (int b = a + 1; b < more; b++) {
                            net.set(old + a, old + b, cross(token, (char) ('a' + a), (char) ('a' + b)));
                        }
                    }
                }
            } else {
                int point = Integer.parseInt(token);
                if (point >= net.points()) {
                    fault = 3;
                } else if (step == 1) {
                    first = point;
                    net = head.equals("turn") ? net.turned(point) : net;
                } else if (point == first) {
                    fault = 4;
                } else if (net.line[first][point] == head.equals("line")) {
                    fault = 5;
                } else if (head.equals("line")) {
                    net = net.copy();
                    net.set(first, point, true);
                } else {
                    net = net.swung(first, point);
                }
            }
            if (fault != 0) {
                return new Text(null, fault, place);
            }
            step++;
        }
        throw new IllegalStateException("a text has an end");
    }

    private static int last(String head) {
        return head.equals("line") || head.equals("swing") ? 2 : 1;
    }

    private static boolean chordWord(String word, int unlike) {
        char[] letters = word.toCharArray();
        Arrays.sort(letters);
        StringBuilder due = new StringBuilder();
        for (int i = 0; i < unlike; i++) {
            due.append((char) ('a' + i)).append((char) ('a' + i));
        }
        return new String(letters).contentEquals(due);
    }

    // ---- drawn

    /** The networks of so many shuffled rows. */
    static List<Net> drawn(int seed, int points, int rows) {
        List<Net> nets = new ArrayList<>();
        long s = seed;
        for (int i = 0; i < rows; i++) {
            List<Integer> row = new ArrayList<>();
            for (int p = 0; p < points; p++) {
                row.addAll(List.of(p, p));
            }
            for (int k = row.size() - 1; k > 0; k--) {
                s = (s * 4093L + 18257L) % 65536L;
                java.util.Collections.swap(row, k, (int) (s / 8 % (k + 1)));
            }
            StringBuilder word = new StringBuilder();
            for (int letter : row) {
                word.append((char) ('a' + letter));
            }
            Net net = new Net(points);
            for (int a = 0; a < points; a++) {
                for (int b = a + 1; b < points; b++) {
                    net.set(a, b, cross(word.toString(), (char) ('a' + a), (char) ('a' + b)));
                }
            }
            nets.add(net);
        }
        return nets;
    }
}
