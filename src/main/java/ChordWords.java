import java.util.Arrays;

/** Networks of crossings and the chord words that they are the crossing pattern of. */
public final class ChordWords {
    public static final int NONE = -1;

    private static final int MOST_POINTS = 7;
    private static final int MOST_LETTERS = 14;
    private static final int MOST_BYTES = 200;
    private static final int BYTES_A_FEED = 20;
    private static final int MOST_UNDONE = 12;
    private static final int IMAGES = 3;
    private static final int FIRST_MARK = 10;
    private static final int LETTER_A = 97;
    private static final int ALPHABET = 26;
    private static final int MOST_COLOURS = 9;
    private static final int MOST_SEED = 9999;
    private static final int MOST_ROWS = 40;
    private static final int LEAST_PRIME = 5;

    private static final int FINE = 0;
    private static final int BAD_NUMBER = 1;
    private static final int NO_POINT = 2;
    private static final int TOO_MANY = 3;
    private static final int SAME_POINT = 4;
    private static final int NO_LINE = 5;
    private static final int NONE_SUCH = 6;
    private static final int WRONG_POINTS = 7;
    private static final int NO_IMAGE = 8;
    private static final int FAULTY = 9;

    private int state;
    private int points;
    private int lines;
    private boolean loaded;
    private final Tape tape;
    private final Reader reader;
    private final Undos undos;
    private final int[] images;
    private final Splits splits;
    private final Pieces pieces;
    private final Models models;
    private final Models others;
    private final Models probe;
    private final Turnings turnings;
    private final Draws draws;
    private final int[] groups;
    private final int[] row;

    public ChordWords() {
        tape = new Tape();
        reader = new Reader();
        undos = new Undos();
        images = new int[IMAGES];
        Arrays.fill(images, NONE);
        splits = new Splits();
        pieces = new Pieces();
        models = new Models();
        others = new Models();
        probe = new Models();
        turnings = new Turnings();
        draws = new Draws();
        groups = new int[MOST_POINTS];
        row = new int[MOST_LETTERS];
    }

    public int status() {
        return state;
    }

    public int feed(int a, int b, int c, int d, int e) {
        if (tape.length + BYTES_A_FEED > MOST_BYTES) {
            return NONE;
        }
        tape.take(a);
        tape.take(b);
        tape.take(c);
        tape.take(d);
        tape.take(e);
        return tape.length;
    }

    public int load(int n) {
        if (!tape.holds(n)) {
            return refuse(BAD_NUMBER);
        }
        reader.read(tape.bytes, n);
        tape.length = 0;
        loaded = true;
        if (reader.kind != 0) {
            return refuse(FAULTY);
        }
        become(reader.points, reader.lines);
        return answer(points);
    }

    public int fault(int what) {
        if (!loaded || what < 0 || what > 1) {
            return NONE;
        }
        return what == 0 ? reader.kind : reader.place;
    }

    // ---- the network, acts

    public int many(int what) {
        if (what < 0 || what > 7) {
            return refuse(BAD_NUMBER);
        }
        switch (what) {
            case 0:
                return answer(points);
            case 1:
                return answer(Integer.bitCount(lines));
            case 2:
                return answer(Net.joinedSets(points, lines));
            case 3:
                return answer(undos.count);
            case 4:
                splits.gather(points, lines);
                return answer(splits.count);
            case 5:
                pieces.gather(points, lines);
                return answer(pieces.count);
            case 6:
                models.gather(points, lines, Models.ALL);
                return answer(models.count);
            default:
                turnings.gather(points, lines);
                return answer(turnings.count);
        }
    }

    public int near(int point) {
        if (!hasPoint(point)) {
            return refuse(NO_POINT);
        }
        return answer(Net.nearTo(points, lines, point));
    }

    public int add(int set) {
        if (!hasSet(set)) {
            return refuse(BAD_NUMBER);
        }
        if (points >= MOST_POINTS) {
            return refuse(TOO_MANY);
        }
        // the pairs with a last point are the highest bits, in the order of the others
        become(points + 1, lines | set << Net.pair(0, points));
        return answer(points - 1);
    }

    public int drop(int point) {
        if (!hasPoint(point)) {
            return refuse(NO_POINT);
        }
        int left = Net.everyPoint(points) ^ 1 << point;
        become(points - 1, Net.part(points, lines, left));
        return answer(points);
    }

    public int flip(int a, int b) {
        int why = badCouple(a, b);
        if (why != FINE) {
            return refuse(why);
        }
        become(points, lines ^ 1 << Net.pair(a, b));
        return answer(Net.tied(lines, a, b) ? 1 : 0);
    }

    public int turn(int point) {
        if (!hasPoint(point)) {
            return refuse(NO_POINT);
        }
        become(points, Net.turnedAt(points, lines, point));
        return answer(Integer.bitCount(lines));
    }

    public int swing(int a, int b) {
        int why = badCouple(a, b);
        if (why != FINE) {
            return refuse(why);
        }
        if (!Net.tied(lines, a, b)) {
            return refuse(NO_LINE);
        }
        become(points, Net.swungOver(points, lines, a, b));
        return answer(Integer.bitCount(lines));
    }

    public boolean rename(int a, int b) {
        state = badCouple(a, b);
        if (state != FINE) {
            return false;
        }
        become(points, Net.exchanged(points, lines, a, b));
        return true;
    }

    public int undo() {
        if (undos.count == 0) {
            return refuse(NONE_SUCH);
        }
        int code = undos.takeBack();
        points = Net.pointsOf(code);
        lines = Net.linesOf(code);
        return answer(undos.count);
    }

    public boolean image(int k) {
        if (k < 0 || k >= images.length) {
            state = BAD_NUMBER;
            return false;
        }
        state = FINE;
        images[k] = Net.code(points, lines);
        return true;
    }

    public int like(int k) {
        int why = badImage(k);
        if (why != FINE) {
            return refuse(why);
        }
        return answer(imageAt(k) == Net.code(points, lines) ? 1 : 0);
    }

    // ---- splits

    public int order(int set) {
        if (!hasSet(set)) {
            return refuse(BAD_NUMBER);
        }
        return answer(Net.rank(points, lines, set));
    }

    public int split(int i) {
        int why = badSplit(i);
        if (why != FINE) {
            return refuse(why);
        }
        return answer(splits.setAt(i));
    }

    public int strong(int i) {
        int why = badSplit(i);
        if (why != FINE) {
            return refuse(why);
        }
        return answer(splits.isStrong(points, i) ? 1 : 0);
    }

    public int prime() {
        return answer(Splits.isPrime(points, lines) ? 1 : 0);
    }

    public int piece(int i, int what) {
        if (i < 0 || what < 0 || what > 2) {
            return refuse(BAD_NUMBER);
        }
        pieces.gather(points, lines);
        if (i >= pieces.count) {
            return refuse(NONE_SUCH);
        }
        if (what == 0) {
            return answer(pieces.kindOf(i));
        }
        return answer(what == 1 ? pieces.sizeOf(i) : pieces.marksIn(i));
    }

    public int knot(int i, int k) {
        int why = badKnot(i, k);
        if (why != FINE) {
            return refuse(why);
        }
        return answer(pieces.knotAt(i, k));
    }

    public int ties(int i, int k) {
        int why = badKnot(i, k);
        if (why != FINE) {
            return refuse(why);
        }
        return answer(pieces.tiesOf(i, k));
    }

    public int plain() {
        pieces.gather(points, lines);
        return answer(pieces.isPlain() ? 1 : 0);
    }

    public int twins(int what) {
        if (what < 0 || what > 3) {
            return refuse(BAD_NUMBER);
        }
        if (what < 2) {
            return answer(Net.likeCouples(points, lines, what == 1));
        }
        if (what == 2) {
            return answer(Net.lonePoints(points, lines));
        }
        splits.gather(points, lines);
        return answer(splits.strongOnes(points));
    }

    public int most(int what) {
        if (what < 0 || what > 1) {
            return refuse(BAD_NUMBER);
        }
        return answer(Net.largest(points, lines, what == 0));
    }

    public int colours() {
        int fewest = 0;
        while (fewest < points && Net.paint(points, lines, groups, 0, 0, fewest) == 0) {
            fewest++;
        }
        return answer(fewest);
    }

    public long paintings(int colours) {
        if (colours < 0 || colours > MOST_COLOURS) {
            return refuse(BAD_NUMBER);
        }
        state = FINE;
        return Net.paint(points, lines, groups, 0, 0, colours);
    }

    // ---- words

    public int letter(int i, int place) {
        if (i < 0 || place < 0) {
            return refuse(BAD_NUMBER);
        }
        if (!hasModel(i) || place >= 2 * points) {
            return refuse(NONE_SUCH);
        }
        models.spell(i, row);
        return answer(row[place]);
    }

    public int span(int i, int point) {
        int why = badModelPoint(i, point);
        if (why != FINE) {
            return refuse(why);
        }
        models.spell(i, row);
        return answer(Rows.spanOf(row, 2 * points, point));
    }

    public int mean(int i, int what) {
        if (i < 0 || what < 0 || what > 1) {
            return refuse(BAD_NUMBER);
        }
        if (!hasModel(i)) {
            return refuse(NONE_SUCH);
        }
        models.spell(i, row);
        float value = what == 0 ? Rows.meanSpan(row, points) : Rows.even(row, points);
        return answer(bitsOf(value));
    }

    public int find(int n) {
        if (!tape.holds(n)) {
            return refuse(BAD_NUMBER);
        }
        if (n != 2 * points || !tape.copyLetters(n, row) || !Rows.isChordWord(row, n, points)) {
            return refuse(NONE_SUCH);
        }
        models.gather(points, lines, Models.ALL);
        int index = models.indexOf(Rows.leastReading(row, n));
        if (index < 0) {
            return refuse(NONE_SUCH);
        }
        tape.length = 0;
        return answer(index);
    }

    public int cross(int n, int a, int b) {
        if (!tape.holds(n) || a < 0 || a >= ALPHABET || b < 0 || b >= ALPHABET) {
            return refuse(BAD_NUMBER);
        }
        int first = a + LETTER_A;
        int second = b + LETTER_A;
        if (Rows.count(tape.bytes, n, first) != 2 || Rows.count(tape.bytes, n, second) != 2) {
            return refuse(NO_POINT);
        }
        if (a == b) {
            return refuse(SAME_POINT);
        }
        tape.length = 0;
        return answer(Rows.crossing(tape.bytes, n, first, second) ? 1 : 0);
    }

    public int fits(int i, int set) {
        if (i < 0 || !hasSet(set)) {
            return refuse(BAD_NUMBER);
        }
        if (!hasModel(i)) {
            return refuse(NONE_SUCH);
        }
        models.spell(i, row);
        return answer(Rows.countCouples(row, 2 * points, set));
    }

    public int gap(int i, int set, int j, int what) {
        if (i < 0 || !hasSet(set) || j < 0 || what < 0 || what > 1) {
            return refuse(BAD_NUMBER);
        }
        if (!hasModel(i)) {
            return refuse(NONE_SUCH);
        }
        models.spell(i, row);
        int couple = Rows.coupleAt(row, 2 * points, set, j);
        if (couple < 0) {
            return refuse(NONE_SUCH);
        }
        return answer(what == 0 ? couple / Rows.GAPS : couple % Rows.GAPS);
    }

    public int could(int set) {
        if (!hasSet(set)) {
            return refuse(BAD_NUMBER);
        }
        models.gather(points, lines, Models.ALL);
        int sum = 0;
        for (int i = 0; i < models.count; i++) {
            if (models.letsIn(i, set)) {
                sum++;
            }
        }
        return answer(sum);
    }

    public int beside(int a, int b) {
        int why = badCouple(a, b);
        if (why != FINE) {
            return refuse(why);
        }
        models.gather(points, lines, Models.ALL);
        int sum = 0;
        for (int i = 0; i < models.count; i++) {
            if (models.setsBeside(i, a, b)) {
                sum++;
            }
        }
        return answer(sum);
    }

    public int turned(int i, int point) {
        int why = badModelPoint(i, point);
        if (why != FINE) {
            return refuse(why);
        }
        models.spell(i, row);
        Rows.reverseBetween(row, 2 * points, point);
        others.gather(points, Net.turnedAt(points, lines, point), Models.ALL);
        return answer(others.indexOf(Rows.leastReading(row, 2 * points)));
    }

    public int obstruction() {
        int set = findObstruction();
        return set < 0 ? refuse(NONE_SUCH) : answer(set);
    }

    public int obstructions() {
        int least = findObstruction();
        if (least < 0) {
            return refuse(NONE_SUCH);
        }
        int sum = 0;
        for (int set = least; set < 1 << points; set++) {
            if (Integer.bitCount(set) == Integer.bitCount(least) && !partHasModel(set)) {
                sum++;
            }
        }
        return answer(sum);
    }

    // ---- turned

    public int family(int what) {
        if (what < 0 || what > 3) {
            return refuse(BAD_NUMBER);
        }
        turnings.gather(points, lines);
        switch (what) {
            case 0:
                return answer(turnings.fewestLines());
            case 1:
                return answer(turnings.mostLines());
            case 2:
                return answer(turnings.countWith(turnings.fewestLines()));
            default:
                return answer(turnings.allLines());
        }
    }

    public int turns(int k) {
        int why = badImage(k);
        if (why != FINE) {
            return refuse(why);
        }
        int code = imageAt(k);
        if (Net.pointsOf(code) != points) {
            return refuse(WRONG_POINTS);
        }
        turnings.gather(points, lines);
        int far = turnings.turnsTo(Net.linesOf(code));
        return far < 0 ? refuse(NONE_SUCH) : answer(far);
    }

    public int within(int k) {
        int why = badImage(k);
        if (why != FINE) {
            return refuse(why);
        }
        int code = imageAt(k);
        if (Net.pointsOf(code) > points) {
            return refuse(WRONG_POINTS);
        }
        turnings.gather(points, lines);
        boolean holds = turnings.anyBeginsWith(Net.pointsOf(code), Net.linesOf(code));
        return answer(holds ? 1 : 0);
    }

    // ---- drawn

    public int shuffle(int seed, int n) {
        if (seed < 0 || seed > MOST_SEED || n < 0 || n > MOST_POINTS) {
            return refuse(BAD_NUMBER);
        }
        draws.begin(seed);
        become(n, draws.drawnLines(n));
        return answer(Integer.bitCount(lines));
    }

    public int sample(int seed, int n, int m, int what) {
        if (seed < 0 || seed > MOST_SEED || n < 0 || n > MOST_POINTS) {
            return refuse(BAD_NUMBER);
        }
        if (m < 1 || m > MOST_ROWS || what < 0 || what > 3) {
            return refuse(BAD_NUMBER);
        }
        draws.begin(seed);
        draws.count(n, m);
        switch (what) {
            case 0:
                return answer(draws.lineSum);
            case 1:
                return answer(draws.joinedOnes);
            case 2:
                return answer(draws.primeOnes);
            default:
                return answer(bitsOf(ratio(draws.lineSum, m * Net.pair(0, n), 0)));
        }
    }

    // ---- what the calls share

    private int refuse(int why) {
        state = why;
        return NONE;
    }

    private int answer(int value) {
        state = FINE;
        return value;
    }

    private void become(int newPoints, int newLines) {
        undos.keep(Net.code(points, lines));
        points = newPoints;
        lines = newLines;
    }

    private boolean hasPoint(int point) {
        return point >= 0 && point < points;
    }

    private boolean hasSet(int set) {
        return set >= 0 && set < 1 << points;
    }

    private boolean hasModel(int i) {
        models.gather(points, lines, Models.ALL);
        return i >= 0 && i < models.count;
    }

    private int imageAt(int k) {
        return k >= 0 && k < images.length ? images[k] : NONE;
    }

    private int badCouple(int a, int b) {
        if (!hasPoint(a) || !hasPoint(b)) {
            return NO_POINT;
        }
        return a == b ? SAME_POINT : FINE;
    }

    private int badImage(int k) {
        if (k < 0 || k >= images.length) {
            return BAD_NUMBER;
        }
        return images[k] < 0 ? NO_IMAGE : FINE;
    }

    // a network that is not joined has no splits at all: to say so goes before 'none such'
    private int badSplit(int i) {
        if (i < 0) {
            return BAD_NUMBER;
        }
        if (!Net.joined(points, lines)) {
            return WRONG_POINTS;
        }
        splits.gather(points, lines);
        return i >= splits.count ? NONE_SUCH : FINE;
    }

    private int badKnot(int i, int k) {
        if (i < 0 || k < 0) {
            return BAD_NUMBER;
        }
        pieces.gather(points, lines);
        return i >= pieces.count || k >= pieces.sizeOf(i) ? NONE_SUCH : FINE;
    }

    private int badModelPoint(int i, int point) {
        if (i < 0) {
            return BAD_NUMBER;
        }
        if (!hasPoint(point)) {
            return NO_POINT;
        }
        return hasModel(i) ? FINE : NONE_SUCH;
    }

    private boolean partHasModel(int set) {
        probe.gather(Integer.bitCount(set), Net.part(points, lines, set), 1);
        return probe.count > 0;
    }

    private int findObstruction() {
        // a part of a network with a model has one, too
        if (partHasModel(Net.everyPoint(points))) {
            return NONE;
        }
        for (int size = 1; size <= points; size++) {
            for (int set = 1; set < 1 << points; set++) {
                if (Integer.bitCount(set) == size && !partHasModel(set)) {
                    return set;
                }
            }
        }
        return NONE;
    }

    private static float ratio(int part, int whole, int without) {
        return whole == 0 ? (float) without : (float) part / (float) whole;
    }

    // the language has no call for a float's bits; all here are 0 or well inside the normal ones
    private static int bitsOf(float value) {
        if (!(value > 0.0f)) {
            return 0;
        }
        float rest = value;
        int exponent = 127;
        for (int i = 0; i < 127 && rest >= 2.0f; i++) {
            rest = rest / 2.0f;
            exponent++;
        }
        for (int i = 0; i < 126 && rest < 1.0f; i++) {
            rest = rest * 2.0f;
            exponent--;
        }
        return exponent << 23 | (int) (rest * 8388608.0f) & 8388607;
    }

    /** The bytes that feed() has brought. */
    private static final class Tape {
        final int[] bytes = new int[MOST_BYTES];
        int length;

        void take(int four) {
            for (int shift = 24; shift >= 0 && length < bytes.length; shift -= 8) {
                bytes[length] = four >> shift & 255;
                length++;
            }
        }

        boolean holds(int n) {
            return n >= 0 && n <= length;
        }

        boolean copyLetters(int n, int[] into) {
            if (!holds(n) || n > into.length) {
                return false;
            }
            for (int i = 0; i < n; i++) {
                into[i] = bytes[i] - LETTER_A;
            }
            return true;
        }
    }

    /** The networks ahead of the latest acts. */
    private static final class Undos {
        final int[] codes = new int[MOST_UNDONE];
        int count;

        void keep(int code) {
            if (count >= codes.length) {
                System.arraycopy(codes, 1, codes, 0, codes.length - 1);
                count = codes.length - 1;
            }
            codes[count] = code;
            count++;
        }

        int takeBack() {
            if (count <= 0) {
                return 0;
            }
            count--;
            return codes[count];
        }
    }

    /**
     * What can be asked of a network alone. It is told by its number of points and by its lines, a bit for each couple
     * of points; the couples of the first points have the same bits in every network, and so take the lowest.
     */
    private static final class Net {
        private static final int CODE_SHIFT = 21;

        static int code(int points, int lines) {
            return points << CODE_SHIFT | lines;
        }

        static int pointsOf(int code) {
            return code >> CODE_SHIFT;
        }

        static int linesOf(int code) {
            return code & (1 << CODE_SHIFT) - 1;
        }

        static int pair(int a, int b) {
            return a > b ? a * (a - 1) / 2 + b : b * (b - 1) / 2 + a;
        }

        static boolean tied(int lines, int a, int b) {
            return (lines >> pair(a, b) & 1) != 0;
        }

        static boolean isIn(int set, int point) {
            return (set >> point & 1) != 0;
        }

        static boolean isLeastOf(int set, int point) {
            return (set & everyPoint(point)) == 0;
        }

        static int everyPoint(int points) {
            return (1 << points) - 1;
        }

        static int nearTo(int points, int lines, int point) {
            int set = lines >> point * (point - 1) / 2 & (1 << point) - 1;
            for (int other = point + 1; other < points; other++) {
                set |= (lines >> other * (other - 1) / 2 + point & 1) << other;
            }
            return set;
        }

        static int pairsOf(int set) {
            int pairs = 0;
            for (int high = 1; high < MOST_POINTS; high++) {
                if ((set >> high & 1) != 0) {
                    pairs |= (set & (1 << high) - 1) << high * (high - 1) / 2;
                }
            }
            return pairs;
        }

        static int turnedAt(int points, int lines, int point) {
            return lines ^ pairsOf(nearTo(points, lines, point));
        }

        static int swungOver(int points, int lines, int a, int b) {
            int low = Math.min(a, b);
            int once = turnedAt(points, lines, low);
            int twice = turnedAt(points, once, Math.max(a, b));
            return turnedAt(points, twice, low);
        }

        static int exchanged(int points, int lines, int a, int b) {
            int result = 0;
            for (int high = 1; high < points; high++) {
                for (int low = 0; low < high; low++) {
                    if (tied(lines, exchange(low, a, b), exchange(high, a, b))) {
                        result |= 1 << pair(low, high);
                    }
                }
            }
            return result;
        }

        private static int exchange(int point, int a, int b) {
            if (point == a) {
                return b;
            }
            return point == b ? a : point;
        }

        static int part(int points, int lines, int set) {
            int result = 0;
            int kept = 0;
            for (int high = 0; high < points; high++) {
                if (isIn(set, high)) {
                    int low = 0;
                    for (int other = 0; other < high; other++) {
                        if (isIn(set, other)) {
                            result |= (lines >> pair(other, high) & 1) << pair(low, kept);
                            low++;
                        }
                    }
                    kept++;
                }
            }
            return result;
        }

        static int joinedTo(int points, int lines, int point) {
            int set = 1 << point;
            for (int round = 0; round < points; round++) {
                for (int other = 0; other < points; other++) {
                    if (isIn(set, other)) {
                        set |= nearTo(points, lines, other);
                    }
                }
            }
            return set;
        }

        static int joinedSets(int points, int lines) {
            int sets = 0;
            for (int point = 0; point < points; point++) {
                if (isLeastOf(joinedTo(points, lines, point), point)) {
                    sets++;
                }
            }
            return sets;
        }

        static boolean joined(int points, int lines) {
            return points == 0 || joinedTo(points, lines, 0) == everyPoint(points);
        }

        // the rows that count so far lie in a long, eight bits each, by their highest bit: no array is made
        static int rank(int points, int lines, int set) {
            long basis = 0;
            int rank = 0;
            for (int point = 0; point < points; point++) {
                if (isIn(set, point)) {
                    long more = withRow(basis, nearTo(points, lines, point) & ~set);
                    if (more != basis) {
                        basis = more;
                        rank++;
                    }
                }
            }
            return rank;
        }

        private static long withRow(long basis, int bits) {
            int rest = bits;
            for (int bit = MOST_POINTS - 1; bit >= 0; bit--) {
                if ((rest >> bit & 1) != 0) {
                    int known = (int) (basis >> 8 * bit & 127);
                    if (known == 0) {
                        return basis | (long) rest << 8 * bit;
                    }
                    rest ^= known;
                }
            }
            return basis;
        }

        static int likeCouples(int points, int lines, boolean tied) {
            int sum = 0;
            for (int a = 0; a < points; a++) {
                for (int b = a + 1; b < points; b++) {
                    int both = 1 << a | 1 << b;
                    boolean alike = (nearTo(points, lines, a) | both) == (nearTo(points, lines, b) | both);
                    if (alike && tied(lines, a, b) == tied) {
                        sum++;
                    }
                }
            }
            return sum;
        }

        static int lonePoints(int points, int lines) {
            int sum = 0;
            for (int point = 0; point < points; point++) {
                if (Integer.bitCount(nearTo(points, lines, point)) == 1) {
                    sum++;
                }
            }
            return sum;
        }

        static int largest(int points, int lines, boolean tied) {
            int best = 0;
            for (int set = 1; set < 1 << points; set++) {
                int pairs = pairsOf(set);
                boolean fine = (lines & pairs) == (tied ? pairs : 0);
                if (fine && Integer.bitCount(set) > Integer.bitCount(best)) {
                    best = set;
                }
            }
            return best;
        }

        // points of one colour are a group; each new group has its choice of the colours that are left
        private static long paint(int points, int lines, int[] groups, int point, int used, int colours) {
            if (point >= points) {
                return 1;
            }
            int near = nearTo(points, lines, point);
            long sum = 0;
            for (int group = 0; group < used && group < groups.length; group++) {
                if ((groups[group] & near) == 0) {
                    groups[group] ^= 1 << point;
                    sum += paint(points, lines, groups, point + 1, used, colours);
                    groups[group] ^= 1 << point;
                }
            }
            if (used < colours && used < groups.length) {
                groups[used] = 1 << point;
                sum += (colours - used) * paint(points, lines, groups, point + 1, used + 1, colours);
            }
            return sum;
        }
    }

    /** The splits of a network, rising. */
    private static final class Splits {
        private static final int MOST = 64;

        final int[] sets = new int[MOST];
        int count;

        void gather(int points, int lines) {
            count = 0;
            if (!Net.joined(points, lines)) {
                return;
            }
            for (int set = 1; set < 1 << points && count < MOST; set += 2) {
                if (isSplit(points, lines, set)) {
                    sets[count] = set;
                    count++;
                }
            }
        }

        int setAt(int i) {
            return i >= 0 && i < count ? sets[i] : 0;
        }

        boolean isStrong(int points, int i) {
            int side = setAt(i);
            int away = Net.everyPoint(points) ^ side;
            for (int other = 0; other < count; other++) {
                int set = sets[other];
                int left = Net.everyPoint(points) ^ set;
                boolean beside = isWithin(set, side) || isWithin(set, away)
                        || isWithin(left, side) || isWithin(left, away);
                if (!beside) {
                    return false;
                }
            }
            return true;
        }

        int strongOnes(int points) {
            int sum = 0;
            for (int i = 0; i < count; i++) {
                if (isStrong(points, i)) {
                    sum++;
                }
            }
            return sum;
        }

        private static boolean isWithin(int set, int other) {
            return (set & ~other) == 0;
        }

        private static boolean isSplit(int points, int lines, int set) {
            int size = Integer.bitCount(set);
            return size >= 2 && points - size >= 2 && Net.rank(points, lines, set) == 1;
        }

        // of a network in which all are joined; 0 if there is none
        static int firstOf(int points, int lines) {
            for (int set = 1; set < 1 << points; set += 2) {
                if (isSplit(points, lines, set)) {
                    return set;
                }
            }
            return 0;
        }

        static boolean isPrime(int points, int lines) {
            return points >= LEAST_PRIME && Net.joined(points, lines) && firstOf(points, lines) == 0;
        }
    }

    /** The pieces that a network comes apart into; the lines of each are between the places of its knots. */
    private static final class Pieces {
        private static final int MOST = 8;
        private static final int PRIME_KIND = 4;

        final int[][] knots = new int[MOST][MOST];
        final int[] sizes = new int[MOST];
        final int[] ties = new int[MOST];
        int count;
        private int marks;

        void gather(int points, int lines) {
            count = 0;
            marks = 0;
            for (int point = 0; point < points; point++) {
                int set = Net.joinedTo(points, lines, point);
                if (Net.isLeastOf(set, point)) {
                    begin(points, lines, set);
                }
            }
            // each time leaves two smaller pieces: so many can't come
            for (int round = 0; round < 2 * MOST && takeOneApart(); round++) {
                marks++;
            }
        }

        private void begin(int points, int lines, int set) {
            if (count >= MOST) {
                return;
            }
            int size = 0;
            for (int point = 0; point < points; point++) {
                if (Net.isIn(set, point) && size < MOST) {
                    knots[count][size] = point;
                    size++;
                }
            }
            sizes[count] = size;
            ties[count] = Net.part(points, lines, set);
            count++;
        }

        private boolean takeOneApart() {
            for (int i = 0; i < count && count < MOST; i++) {
                int set = Splits.firstOf(sizes[i], ties[i]);
                if (set != 0) {
                    cut(i, Net.everyPoint(sizes[i]) ^ set, count);
                    cut(i, set, i);
                    count++;
                    return true;
                }
            }
            return false;
        }

        // what is kept never stands further on than it stood: a piece can be cut into itself
        private void cut(int from, int set, int to) {
            int size = sizes[from];
            int lines = ties[from];
            int kept = Net.part(size, lines, set);
            int last = Integer.bitCount(set);
            int next = 0;
            for (int place = 0; place < size && next < MOST; place++) {
                if (Net.isIn(set, place)) {
                    knots[to][next] = knots[from][place];
                    if ((Net.nearTo(size, lines, place) & ~set) != 0) {
                        kept |= 1 << Net.pair(next, last);
                    }
                    next++;
                }
            }
            if (next < MOST) {
                knots[to][next] = FIRST_MARK + marks;
                sizes[to] = next + 1;
                ties[to] = kept;
            }
        }

        private boolean has(int i) {
            return i >= 0 && i < count;
        }

        int sizeOf(int i) {
            return has(i) ? sizes[i] : 0;
        }

        int kindOf(int i) {
            int size = sizeOf(i);
            if (size < 3) {
                return size - 1;
            }
            return size == 3 ? Integer.bitCount(ties[i]) : PRIME_KIND;
        }

        int knotAt(int i, int k) {
            return k >= 0 && k < sizeOf(i) ? knots[i][k] : NONE;
        }

        int marksIn(int i) {
            int sum = 0;
            for (int k = 0; k < sizeOf(i); k++) {
                if (knotAt(i, k) >= FIRST_MARK) {
                    sum++;
                }
            }
            return sum;
        }

        int tiesOf(int i, int k) {
            return k >= 0 && k < sizeOf(i) ? Net.nearTo(sizes[i], ties[i], k) : 0;
        }

        boolean isPlain() {
            for (int i = 0; i < count; i++) {
                if (kindOf(i) == PRIME_KIND) {
                    return false;
                }
            }
            return true;
        }
    }

    /** What can be asked of one row of letters. */
    private static final class Rows {
        static final int GAPS = MOST_LETTERS + 1;

        static int count(int[] row, int length, int letter) {
            int sum = 0;
            for (int i = 0; i < length && i < row.length; i++) {
                if (row[i] == letter) {
                    sum++;
                }
            }
            return sum;
        }

        // of two letters that stand just twice each
        static boolean crossing(int[] row, int length, int a, int b) {
            boolean between = false;
            int sum = 0;
            for (int i = 0; i < length && i < row.length; i++) {
                if (row[i] == a) {
                    between = !between;
                } else if (between && row[i] == b) {
                    sum++;
                }
            }
            return sum == 1;
        }

        static int crossings(int[] row, int points) {
            int lines = 0;
            for (int high = 1; high < points; high++) {
                for (int low = 0; low < high; low++) {
                    if (crossing(row, 2 * points, low, high)) {
                        lines |= 1 << Net.pair(low, high);
                    }
                }
            }
            return lines;
        }

        static boolean isChordWord(int[] row, int length, int points) {
            if (length != 2 * points) {
                return false;
            }
            for (int point = 0; point < points; point++) {
                if (count(row, length, point) != 2) {
                    return false;
                }
            }
            return true;
        }

        static int placeOf(int[] row, int length, int letter, int from) {
            for (int i = from < 0 ? 0 : from; i < length && i < row.length; i++) {
                if (row[i] == letter) {
                    return i;
                }
            }
            return 0;
        }

        static int spanOf(int[] row, int length, int point) {
            int first = placeOf(row, length, point, 0);
            int apart = placeOf(row, length, point, first + 1) - first;
            return Math.min(apart, length - apart);
        }

        static float meanSpan(int[] row, int points) {
            int sum = 0;
            for (int point = 0; point < points; point++) {
                sum += spanOf(row, 2 * points, point);
            }
            return ratio(sum, points, 0);
        }

        static float even(int[] row, int points) {
            int least = MOST_LETTERS;
            int greatest = 0;
            for (int point = 0; point < points; point++) {
                least = Math.min(least, spanOf(row, 2 * points, point));
                greatest = Math.max(greatest, spanOf(row, 2 * points, point));
            }
            return ratio(least, greatest, 1);
        }

        static void reverseBetween(int[] row, int length, int point) {
            int low = placeOf(row, length, point, 0) + 1;
            int high = placeOf(row, length, point, low) - 1;
            while (low < high && high < row.length) {
                int letter = row[low];
                row[low] = row[high];
                row[high] = letter;
                low++;
                high--;
            }
        }

        static long pack(int[] row, int length, int from, int step) {
            long word = 0;
            int place = from;
            for (int i = 0; i < length; i++) {
                if (place >= 0 && place < row.length) {
                    word = word << 4 | row[place];
                }
                place = next(place, step, length);
            }
            return word;
        }

        private static int next(int place, int step, int length) {
            int on = place + step;
            if (on < 0) {
                return length - 1;
            }
            return on >= length ? 0 : on;
        }

        // the least reading begins with the least letter: four can be it
        static long leastReading(int[] row, int length) {
            int first = placeOf(row, length, 0, 0);
            int second = placeOf(row, length, 0, first + 1);
            long best = Math.min(pack(row, length, first, 1), pack(row, length, first, -1));
            return Math.min(best, Math.min(pack(row, length, second, 1), pack(row, length, second, -1)));
        }

        // a reading of the row that begins elsewhere, against the row itself
        static boolean readsLess(int[] row, int length, int from, int step) {
            int place = from;
            for (int i = 0; i < length && i < row.length; i++) {
                if (place < 0 || place >= row.length) {
                    return false;
                }
                if (row[place] != row[i]) {
                    return row[place] < row[i];
                }
                place += step;
                if (place < 0) {
                    place = length - 1;
                } else if (place >= length) {
                    place = 0;
                }
            }
            return false;
        }

        static int oddBetween(int[] row, int a, int b) {
            int set = 0;
            for (int i = a; i < b && i < row.length; i++) {
                set ^= 1 << row[i];
            }
            return set;
        }

        static int countCouples(int[] row, int length, int set) {
            int sum = 0;
            for (int a = 0; a <= length; a++) {
                for (int b = a; b <= length; b++) {
                    if (oddBetween(row, a, b) == set) {
                        sum++;
                    }
                }
            }
            return sum;
        }

        // both gaps in one number, or NONE
        static int coupleAt(int[] row, int length, int set, int j) {
            int sum = 0;
            for (int a = 0; a <= length; a++) {
                for (int b = a; b <= length; b++) {
                    if (oddBetween(row, a, b) == set) {
                        if (sum == j) {
                            return a * GAPS + b;
                        }
                        sum++;
                    }
                }
            }
            return NONE;
        }
    }

    /** The models of a network, rising, each packed into a long with its first letter highest. */
    private static final class Models {
        // seven points without lines have the most models of all: 78,480
        static final int ALL = 80000;
        private static final int FIRST_ROOM = 256;
        private static final int MORE_ROOM = 8;

        int count;
        private long[] words = new long[FIRST_ROOM];
        private int points = NONE;
        private int lines;
        private int letters;
        private int wanted;
        private final int[] near = new int[MOST_POINTS];
        private final int[] row = new int[MOST_LETTERS];
        private final int[] seenAt = new int[1 << MOST_POINTS];
        private int stamp;

        // the least ones, as many as are wanted
        void gather(int newPoints, int newLines, int most) {
            if (points == newPoints && lines == newLines && wanted == most) {
                return;
            }
            points = newPoints;
            lines = newLines;
            wanted = most;
            letters = 2 * points;
            count = 0;
            for (int point = 0; point < points && point < near.length; point++) {
                near[point] = Net.nearTo(points, lines, point);
            }
            if (points == 0) {
                keep(0);
            } else {
                row[0] = 0;
                extend(this, 1, Net.everyPoint(points) ^ 1, 1, 0, 0);
            }
        }

        /*
         * The points that have their first letter must close in a settled order: of two that cross, the one that
         * opened first; of two that don't, the other one. 'closing' holds it, four bits a point, the next one lowest.
         */
        private static void extend(Models m, int place, int waiting, int open, int closing, long word) {
            if (waiting == 0 || place >= m.row.length) {
                m.finish(place, closing, word);
                return;
            }
            int next = open == 0 ? NONE : closing & 15;
            for (int point = 0; point < m.points && m.count < m.wanted; point++) {
                int bit = 1 << point;
                if (point == next) {
                    if ((m.near[point] & waiting) == 0 && !m.spoils(place, point)) {
                        m.row[place] = point;
                        extend(m, place + 1, waiting, open ^ bit, closing >> 4, word << 4 | point);
                    }
                } else if ((waiting & bit) != 0 && !m.spoils(place, point)) {
                    int order = insert(m.near[point], open, closing, point);
                    if (order != NONE) {
                        m.row[place] = point;
                        extend(m, place + 1, waiting ^ bit, open | bit, order, word << 4 | point);
                    }
                }
            }
        }

        // those that the new point crosses must all close ahead of those that it doesn't
        private static int insert(int near, int open, int closing, int point) {
            int ahead = Integer.bitCount(near & open);
            for (int i = 0; i < ahead; i++) {
                if (!Net.isIn(near, closing >> 4 * i & 15)) {
                    return NONE;
                }
            }
            int low = closing & (1 << 4 * ahead) - 1;
            int high = closing >> 4 * ahead;
            return (high << 4 | point) << 4 * ahead | low;
        }

        // a lesser letter beside either 0 than the one behind the first: another reading is less
        private boolean spoils(int place, int point) {
            if (place < 2) {
                return false;
            }
            int before = row[place - 1];
            if (point == 0) {
                return before < row[1] || place == letters - 1;
            }
            return point < row[1] && (before == 0 || place == letters - 1);
        }

        // with all points open or closed, the rest of the letters stand fast
        private void finish(int place, int closing, long word) {
            long whole = word;
            int rest = closing;
            for (int i = place; i < letters && i < row.length; i++) {
                row[i] = rest & 15;
                whole = whole << 4 | row[i];
                rest >>= 4;
            }
            if (isLeast()) {
                keep(whole);
            }
        }

        private boolean isLeast() {
            int second = Rows.placeOf(row, letters, 0, 1);
            return !Rows.readsLess(row, letters, 0, -1)
                    && !Rows.readsLess(row, letters, second, 1)
                    && !Rows.readsLess(row, letters, second, -1);
        }

        private void keep(long word) {
            if (count >= words.length && words.length < ALL) {
                words = Arrays.copyOf(words, Math.min(words.length * MORE_ROOM, ALL));
            }
            if (count < words.length) {
                words[count] = word;
                count++;
            }
        }

        private long wordAt(int i) {
            return i >= 0 && i < count && i < words.length ? words[i] : 0;
        }

        void spell(int i, int[] into) {
            long word = wordAt(i);
            for (int place = Math.min(letters, into.length) - 1; place >= 0; place--) {
                into[place] = (int) (word & 15);
                word >>= 4;
            }
        }

        int indexOf(long word) {
            int low = 0;
            int high = count - 1;
            for (int round = 0; round < 32 && low <= high; round++) {
                int middle = (low + high) / 2;
                long there = wordAt(middle);
                if (there == word) {
                    return middle;
                }
                if (there < word) {
                    low = middle + 1;
                } else {
                    high = middle - 1;
                }
            }
            return NONE;
        }

        // a new point fits in two gaps if the sets that stand once on the way to either differ by just those near it
        boolean letsIn(int i, int set) {
            long word = wordAt(i);
            int odd = 0;
            stamp++;
            for (int place = 0; place <= letters; place++) {
                seenAt[odd & 127] = stamp;
                if (seenAt[(odd ^ set) & 127] == stamp) {
                    return true;
                }
                odd ^= 1 << (int) (word & 15);
                word >>= 4;
            }
            return false;
        }

        boolean setsBeside(int i, int a, int b) {
            long word = wordAt(i);
            int both = 1 << a | 1 << b;
            int first = 1 << (int) (word & 15);
            int before = first;
            for (int place = 1; place < letters; place++) {
                word >>= 4;
                int here = 1 << (int) (word & 15);
                if ((before | here) == both) {
                    return true;
                }
                before = here;
            }
            return (before | first) == both;
        }
    }

    /** All networks that come of one by turning, in the order of the fewest turns. */
    private static final class Turnings {
        // the largest class there is with seven points
        private static final int MOST = 1096;
        private static final int SLOTS = 2048;

        int count;
        private int points = NONE;
        private int lines;
        private final int[] nets = new int[MOST];
        private final int[] far = new int[MOST];
        private final int[] slots = new int[SLOTS];

        void gather(int newPoints, int newLines) {
            if (points == newPoints && lines == newLines) {
                return;
            }
            points = newPoints;
            lines = newLines;
            count = 0;
            Arrays.fill(slots, 0);
            meet(lines, 0);
            for (int i = 0; i < count && i < MOST; i++) {
                for (int point = 0; point < points; point++) {
                    meet(Net.turnedAt(points, nets[i], point), far[i] + 1);
                }
            }
        }

        private void meet(int net, int turns) {
            int slot = (net ^ net >> 9) * 31 & SLOTS - 1;
            for (int round = 0; round < SLOTS; round++) {
                int known = slots[slot];
                if (known == 0) {
                    keep(net, turns, slot);
                    return;
                }
                if (known <= MOST && nets[known - 1] == net) {
                    return;
                }
                slot = slot + 1 & SLOTS - 1;
            }
        }

        private void keep(int net, int turns, int slot) {
            if (count < MOST) {
                nets[count] = net;
                far[count] = turns;
                count++;
                slots[slot] = count;
            }
        }

        int fewestLines() {
            int fewest = Integer.bitCount(lines);
            for (int i = 0; i < count; i++) {
                fewest = Math.min(fewest, Integer.bitCount(nets[i]));
            }
            return fewest;
        }

        int mostLines() {
            int most = 0;
            for (int i = 0; i < count; i++) {
                most = Math.max(most, Integer.bitCount(nets[i]));
            }
            return most;
        }

        int countWith(int size) {
            int sum = 0;
            for (int i = 0; i < count; i++) {
                if (Integer.bitCount(nets[i]) == size) {
                    sum++;
                }
            }
            return sum;
        }

        int allLines() {
            int sum = 0;
            for (int i = 0; i < count; i++) {
                sum += Integer.bitCount(nets[i]);
            }
            return sum;
        }

        int turnsTo(int net) {
            for (int i = 0; i < count; i++) {
                if (nets[i] == net) {
                    return far[i];
                }
            }
            return NONE;
        }

        boolean anyBeginsWith(int firstPoints, int net) {
            int pairs = Net.pairsOf(Net.everyPoint(firstPoints));
            for (int i = 0; i < count; i++) {
                if ((nets[i] & pairs) == net) {
                    return true;
                }
            }
            return false;
        }
    }

    /** Reads a text; stops at its first fault. */
    private static final class Reader {
        private static final int END = 0;
        private static final int WORD = 1;
        private static final int DIGIT = 2;
        private static final int SIGN = 3;

        private static final int NO_TOKEN = 1;
        private static final int MISPLACED = 2;
        private static final int UNKNOWN_POINT = 3;
        private static final int POINT_TWICE = 4;
        private static final int WRONG_LINE = 5;
        private static final int CROWDED = 6;
        private static final int NO_CHORD_WORD = 7;

        int points;
        int lines;
        int kind;
        int place = NONE;
        private int[] text = new int[0];
        private int length;
        private int token;
        private int start;
        private int end;
        private final int[] word = new int[MOST_LETTERS];

        void read(int[] bytes, int many) {
            text = bytes;
            length = Math.min(many, bytes.length);
            points = 0;
            lines = 0;
            kind = 0;
            place = NONE;
            end = 0;
            for (int i = 0; i <= length && kind == 0 && nextToken() && token != END; i++) {
                readLine();
            }
        }

        private void fail(int newKind) {
            kind = newKind;
            place = start;
        }

        private int byteAt(int at) {
            return at >= 0 && at < length && at < text.length ? text[at] : NONE;
        }

        private static boolean isBlank(int sign) {
            return sign == ' ' || sign == '\n';
        }

        private static boolean isSmall(int sign) {
            return sign >= 'a' && sign <= 'z';
        }

        private static boolean isDigit(int sign) {
            return sign >= '0' && sign <= '9';
        }

        private boolean nextToken() {
            start = end;
            while (start < length && isBlank(byteAt(start))) {
                start++;
            }
            end = start + 1;
            int sign = byteAt(start);
            if (start >= length) {
                token = END;
                end = start;
            } else if (isSmall(sign)) {
                token = WORD;
                while (end < length && isSmall(byteAt(end))) {
                    end++;
                }
            } else if (isDigit(sign) && !isDigit(byteAt(end))) {
                token = DIGIT;
            } else if (sign == ';') {
                token = SIGN;
            } else {
                fail(NO_TOKEN);
            }
            return kind == 0;
        }

        private boolean expect(int wanted) {
            if (!nextToken()) {
                return false;
            }
            if (token != wanted) {
                fail(MISPLACED);
            }
            return kind == 0;
        }

        private boolean says(String name) {
            if (token != WORD || end - start != name.length()) {
                return false;
            }
            for (int i = 0; i < name.length(); i++) {
                if (byteAt(start + i) != name.charAt(i)) {
                    return false;
                }
            }
            return true;
        }

        private void readLine() {
            if (says("points")) {
                readPoints();
            } else if (says("line")) {
                readCouple(false);
            } else if (says("cross")) {
                readCross();
            } else if (says("turn")) {
                readTurn();
            } else if (says("swing")) {
                readCouple(true);
            } else {
                fail(MISPLACED);
            }
            if (kind == 0) {
                expect(SIGN);
            }
        }

        private void readPoints() {
            if (!expect(DIGIT)) {
                return;
            }
            int more = byteAt(start) - '0';
            if (points + more > MOST_POINTS) {
                fail(CROWDED);
            } else {
                points += more;
            }
        }

        // NONE with a fault
        private int readPoint() {
            if (!expect(DIGIT)) {
                return NONE;
            }
            int point = byteAt(start) - '0';
            if (point >= points) {
                fail(UNKNOWN_POINT);
                return NONE;
            }
            return point;
        }

        private void readTurn() {
            int point = readPoint();
            if (point >= 0) {
                lines = Net.turnedAt(points, lines, point);
            }
        }

        private void readCouple(boolean swung) {
            int a = readPoint();
            int b = a < 0 ? NONE : readPoint();
            if (b < 0) {
                return;
            }
            if (a == b) {
                fail(POINT_TWICE);
            } else if (Net.tied(lines, a, b) != swung) {
                fail(WRONG_LINE);
            } else if (swung) {
                lines = Net.swungOver(points, lines, a, b);
            } else {
                lines |= 1 << Net.pair(a, b);
            }
        }

        private void readCross() {
            if (!expect(WORD)) {
                return;
            }
            int more = unlikeLetters();
            if (points + more > MOST_POINTS) {
                fail(CROWDED);
            } else if (!copyWord() || !Rows.isChordWord(word, end - start, more)) {
                fail(NO_CHORD_WORD);
            } else {
                addCrossing(more, Rows.crossings(word, more));
            }
        }

        private int unlikeLetters() {
            int letters = 0;
            for (int i = start; i < end; i++) {
                letters |= 1 << byteAt(i) - LETTER_A;
            }
            return Integer.bitCount(letters);
        }

        private boolean copyWord() {
            if (end - start > word.length) {
                return false;
            }
            for (int i = 0; i < end - start && i < word.length; i++) {
                word[i] = byteAt(start + i) - LETTER_A;
            }
            return true;
        }

        private void addCrossing(int more, int crossings) {
            for (int high = 1; high < more; high++) {
                for (int low = 0; low < high; low++) {
                    if (Net.tied(crossings, low, high)) {
                        lines |= 1 << Net.pair(points + low, points + high);
                    }
                }
            }
            points += more;
        }
    }

    /** Rows of letters by the draws that a seed begins. */
    private static final class Draws {
        int lineSum;
        int joinedOnes;
        int primeOnes;
        private int s;
        private final int[] row = new int[MOST_LETTERS];

        void begin(int seed) {
            s = seed;
        }

        private int draw(int by) {
            s = (s * 4093 + 18257) % 65536;
            return by > 0 ? s / 8 % by : 0;
        }

        int drawnLines(int points) {
            int length = Math.min(2 * points, row.length);
            for (int i = 0; i < length; i++) {
                row[i] = i / 2;
            }
            for (int k = length - 1; k >= 1; k--) {
                int there = draw(k + 1);
                if (there >= 0 && there < row.length) {
                    int letter = row[k];
                    row[k] = row[there];
                    row[there] = letter;
                }
            }
            return Rows.crossings(row, points);
        }

        void count(int points, int rows) {
            lineSum = 0;
            joinedOnes = 0;
            primeOnes = 0;
            for (int i = 0; i < rows; i++) {
                int lines = drawnLines(points);
                lineSum += Integer.bitCount(lines);
                if (Net.joined(points, lines)) {
                    joinedOnes++;
                }
                if (Splits.isPrime(points, lines)) {
                    primeOnes++;
                }
            }
        }
    }
}
