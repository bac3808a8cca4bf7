import java.util.List;
import java.util.function.Supplier;

/** Promises 29 to 40 and term 4: each bound, one step on either side of it. */
public final class WordBoundsTest {
    private static final Bounds BOUNDS = new Bounds("WordBoundsTest");
    private static final int LOW = Bounds.LOW;
    private static final int HIGH = Bounds.HIGH;
    private static final Supplier<ChordWords> NONE = Bounds.made("");
    private static final Supplier<ChordWords> ONE = Bounds.made("points 1;");
    private static final Supplier<ChordWords> PATH = Bounds.made(Bounds.PATH);
    private static final Supplier<ChordWords> WHEEL = Bounds.made(Bounds.WHEEL);
    private static final Supplier<ChordWords> THREE = Bounds.made("points 3;");
    private static final Supplier<ChordWords> FOUR = Bounds.made("points 4;");
    private static final Supplier<ChordWords> SEVEN = Bounds.made(Bounds.SEVEN);
    private static final Supplier<ChordWords> APART = Bounds.made(Bounds.APART);

    private static final List<Net> NETS = List.of(new Net(NONE, 0, 1), new Net(ONE, 1, 1), new Net(PATH, 4, 1),
            new Net(WHEEL, 6, 0), new Net(THREE, 3, 4), new Net(FOUR, 4, 27), new Net(SEVEN, 7, 360), new Net(APART, 7, 78480));

    public static void main(String[] args) {
        promise29();
        promise29Rising();
        promise30();
        promise31();
        promise32();
        promise32Readings();
        promise32Tape();
        promise33();
        promise33Tape();
        promise34();
        promise35();
        promise36();
        promise37();
        promise38();
        fewerLetters();
        withoutModel();
        promise39And40();
        BOUNDS.end();
    }

    private static Supplier<ChordWords> made(String text) {
        return Bounds.made(text);
    }

    private static int bits(float value) {
        return Float.floatToIntBits(value);
    }

    /** A network with how many POINTS and MODELS it has. */
    private record Net(Supplier<ChordWords> made, int points, int models) {
        int all() {
            return (1 << points) - 1;
        }
    }

    // ---- promises 29 to 31

    private static void promise29() {
        for (Net net : NETS) {
            Supplier<ChordWords> made = net.made();
            int many = net.models();
            BOUNDS.answered("6: MODELS", many, made, x -> x.many(6));
            BOUNDS.refusedAll("29: i below 0", 1, made, (x, i) -> x.letter(i, 0), -1, LOW);
            BOUNDS.refusedAll("29: the place below 0", 1, made, (x, n) -> x.letter(0, n), -1, LOW);
            BOUNDS.refusedAll("29: the place below 0 ahead of no such MODEL", 1, made, (x, n) -> x.letter(99999, n), -1);
            BOUNDS.refusedAll("29: no such MODEL", 6, made, (x, i) -> x.letter(i, 0), many, many + 1, HIGH);
            int letters = 2 * net.points();
            BOUNDS.refusedAll("29: no such place", 6, made, (x, n) -> x.letter(0, n), letters, letters + 1, HIGH);
        }
        spells("the only letters", ONE, 0, 0, 0);
        spells("the only MODEL", PATH, 0, 0, 1, 0, 2, 1, 3, 2, 3);
        spells("the first of four", THREE, 0, 0, 0, 1, 1, 2, 2);
        spells("the second of four", THREE, 1, 0, 0, 1, 2, 2, 1);
        spells("the third of four", THREE, 2, 0, 0, 2, 1, 1, 2);
        spells("the last of four", THREE, 3, 0, 1, 1, 0, 2, 2);
        spells("the first of 360", SEVEN, 0, 0, 1, 2, 3, 4, 5, 6, 0, 1, 2, 3, 4, 5, 6);
        spells("the last of 360", SEVEN, 359, 0, 5, 4, 3, 2, 1, 6, 0, 5, 4, 3, 2, 1, 6);
        spells("the first of 78480", APART, 0, 0, 0, 1, 1, 2, 2, 3, 3, 4, 4, 5, 5, 6, 6);
    }

    private static void spells(String sentence, Supplier<ChordWords> made, int i, long... letters) {
        BOUNDS.answeredFrom("29: " + sentence, 0, made, (x, place) -> x.letter(i, place), letters);
    }

    /** No reading of a MODEL is less than it, and each MODEL is less than the one behind it. */
    private static void promise29Rising() {
        // from the second a on, acdbebeacd goes round the end to acdacdbebe, which is less
        for (String text : List.of(Bounds.RING, "points 4;", "cross abcdabcd;", "cross abab;points 2;",
                "cross acdbebeacd;")) {
            ChordWords x = Bounds.of(text);
            int many = Oracle.models(Oracle.read(text).net).size();
            BOUNDS.due("6: MODELS of " + text, x.many(6), many);
            String last = "";
            for (int i = 0; i < many; i++) {
                StringBuilder word = new StringBuilder();
                for (int letter = x.letter(i, 0); letter >= 0; letter = x.letter(i, word.length())) {
                    word.append((char) ('a' + letter));
                }
                String model = word.toString();
                BOUNDS.due("29: the least reading, " + model, Oracle.least(model).compareTo(model), 0);
                BOUNDS.due("29: they rise, " + model, last.compareTo(model) < 0 ? 1 : 0, 1);
                last = model;
            }
        }
    }

    private static void promise30() {
        for (Net net : NETS.subList(1, NETS.size())) {
            Supplier<ChordWords> made = net.made();
            int many = net.models();
            int points = net.points();
            BOUNDS.refusedAll("30: i below 0", 1, made, (x, i) -> x.span(i, 0), -1, LOW);
            BOUNDS.refusedAll("30: i below 0, no such POINT", 1, made, (x, i) -> x.span(i, points), -1, LOW);
            BOUNDS.refusedAll("30: no such POINT", 2, made, (x, p) -> x.span(0, p), -1, points, LOW, HIGH);
            BOUNDS.refusedAll("30: no such POINT nor MODEL", 2, made, (x, p) -> x.span(many, p), -1, points);
            BOUNDS.refusedAll("30: no such MODEL", 6, made, (x, i) -> x.span(i, 0), many, many + 1, HIGH);
        }
        BOUNDS.refusedAll("30: of none no such POINT", 2, NONE, (x, p) -> x.span(0, p), -1, 0);
        BOUNDS.answeredFrom("30: side by side both ways", 0, ONE, (x, p) -> x.span(0, p), 1);
        BOUNDS.answeredFrom("30: of a path", 0, PATH, (x, p) -> x.span(0, p), 2, 3, 3, 2);
        BOUNDS.answeredFrom("30: as far either way", 0, SEVEN, (x, p) -> x.span(359, p), 7, 7, 7, 7, 7, 7, 7);
        BOUNDS.answeredFrom("30: the other way round, just as far", 0, THREE, (x, p) -> x.span(3, p), 3, 1, 1);
        BOUNDS.answeredFrom("30: three places apart", 0, THREE, (x, p) -> x.span(1, p), 1, 3, 1);
        // 0 0 1 2 2 3 3 1: from one 1 to the other five places one way, three the other
        BOUNDS.answeredFrom("30: fewer round the end", 0, FOUR, (x, p) -> x.span(5, p), 1, 3, 1, 1);
        BOUNDS.answeredFrom("30: one fewer than half the places", 0, made(Bounds.RING), (x, p) -> x.span(0, p),
                3, 3, 3, 3, 3);
    }

    private static void promise31() {
        for (Net net : NETS) {
            Supplier<ChordWords> made = net.made();
            int many = net.models();
            BOUNDS.refusedAll("31: no such what", 1, made, (x, n) -> x.mean(0, n), -1, 2, LOW, HIGH);
            BOUNDS.refusedAll("31: i below 0", 1, made, (x, i) -> x.mean(i, 0), -1, LOW);
            BOUNDS.refusedAll("31: no such what nor MODEL", 1, made, (x, n) -> x.mean(many, n), -1, 2);
            BOUNDS.refusedAll("31: no such MODEL", 6, made, (x, i) -> x.mean(i, 1), many, many + 1, HIGH);
        }
        BOUNDS.answeredFrom("31: without POINTS", 0, NONE, (x, n) -> x.mean(0, n), bits(0f), bits(1f));
        BOUNDS.answeredFrom("31: of one", 0, ONE, (x, n) -> x.mean(0, n), bits(1f), bits(1f));
        BOUNDS.answeredFrom("31: of a path", 0, PATH, (x, n) -> x.mean(0, n), bits(10f / 4f), bits(2f / 3f));
        BOUNDS.answeredFrom("31: of three", 0, THREE, (x, n) -> x.mean(3, n), bits(5f / 3f), bits(1f / 3f));
        BOUNDS.answeredFrom("31: fewer round the end", 0, FOUR, (x, n) -> x.mean(5, n), bits(6f / 4f), bits(1f / 3f));
        // the spans are 2, 3, 3, 4: that of a round the end alone
        BOUNDS.answeredFrom("31: the least round the end", 0, made("cross abcdbcad;"), (x, n) -> x.mean(0, n),
                bits(12f / 4f), bits(2f / 4f));
        BOUNDS.answeredFrom("31: the highest of seven", 0, SEVEN, (x, n) -> x.mean(359, n), bits(7f), bits(1f));
        BOUNDS.answeredFrom("31: the least of seven", 0, APART, (x, n) -> x.mean(0, n), bits(1f), bits(1f));
    }

    // ---- promises 32 and 33

    private static Supplier<ChordWords> taped(String text, String tape) {
        return Bounds.made(text, tape);
    }

    private static void promise32() {
        for (String text : List.of("", Bounds.PATH, Bounds.WHEEL)) {
            BOUNDS.refusedAll("32: the tape has not so many", 1, taped(text, "abacbdcd"), ChordWords::find,
                    -1, 21, LOW, HIGH);
            BOUNDS.refusedAll("32: an empty tape has not so many", 1, taped(text, ""), ChordWords::find,
                    -1, 1, LOW, HIGH);
            BOUNDS.refusedAll("32: a full tape has not so many", 1, taped(text, "abacbdcd".repeat(25)), ChordWords::find,
                    -1, 201, LOW, HIGH);
        }
        Supplier<ChordWords> path = taped(Bounds.PATH, "abacbdcdabcd");
        BOUNDS.refusedAll("32: too few letters, too many", 6, path, ChordWords::find, 0, 1, 7, 9, 12, 20);
        BOUNDS.emptied("32: just so many", 0, path, x -> x.find(8));
        BOUNDS.emptied("32: no letters, no POINTS", 0, taped("", ""), x -> x.find(0));
        BOUNDS.emptied("32: no letters of twenty, no POINTS", 0, taped("", "aabb"), x -> x.find(0));
        BOUNDS.refusedAll("32: a letter, no POINTS", 6, taped("", "aabb"), ChordWords::find, 1, 2, 20);
        BOUNDS.emptied("32: two letters", 0, taped("points 1;", "aabb"), x -> x.find(2));
        BOUNDS.refusedAll("32: none, one, three letters", 6, taped("points 1;", "aabb"), ChordWords::find, 0, 1, 3);
        Supplier<ChordWords> seven = taped(Bounds.SEVEN, "abcdefgabcdefga");
        BOUNDS.emptied("32: fourteen", 0, seven, x -> x.find(14));
        BOUNDS.refusedAll("32: thirteen, fifteen", 6, seven, ChordWords::find, 13, 15);
        for (String word : List.of("abacbdce", "abacbdc`", "abacbdc{", "abacbdc ", "abacbdcD", "abacbdcc", "abacbddd",
                "abacdbcd", "aaaabbbb", "\u00e1bacbdcd", "        ")) {
            BOUNDS.refused("32: a reading of none: " + word, 6, taped(Bounds.PATH, word), x -> x.find(8));
        }
        // r is 17: a byte behind the POINTS' letters is none of them, whatever it may add to those ahead
        for (String word : List.of("aaar", "aara", "raaa", "aabr", "abba", "aabc", "`abb")) {
            BOUNDS.due("32: of two apart, " + word, Bounds.of("points 2;", word).find(4), word.equals("abba") ? 0 : -1);
        }
        BOUNDS.refused("32: where there is no MODEL", 6, taped(Bounds.WHEEL, "abcdefabcdef"), x -> x.find(12));
    }

    /** From any place on, round and round, either way. */
    private static void promise32Readings() {
        for (String reading : Oracle.readings("abacbdcd")) {
            BOUNDS.emptied("32: the reading " + reading, 0, taped(Bounds.PATH, reading), x -> x.find(8));
        }
        String[] models = {"aabbcc", "aabccb", "aacbbc", "abbacc"};
        for (int i = 0; i < models.length; i++) {
            for (String reading : Oracle.readings(models[i])) {
                BOUNDS.emptied("32: the reading " + reading, i, taped("points 3;", reading), x -> x.find(6));
            }
        }
        for (String reading : Oracle.readings("afedcbgafedcbg")) {
            BOUNDS.emptied("32: the last MODEL's " + reading, 359, taped(Bounds.SEVEN, reading), x -> x.find(14));
        }
    }

    private static void promise32Tape() {
        ChordWords x = Bounds.of(Bounds.PATH, "abacbdcd");
        BOUNDS.due("32: of none", x, x.find(7), ChordWords.NONE, 6);
        BOUNDS.due("3: the bytes stay", x.feed(0, 0, 0, 0, 0), 40);
        BOUNDS.due("32: they are there still", x, x.find(8), 0, 0);
        BOUNDS.due("3: from none on", x.feed(0, 0, 0, 0, 0), 20);
    }

    private static void promise33() {
        Supplier<ChordWords> made = taped(Bounds.PATH, "abab zyzycc ccc");
        BOUNDS.refusedAll("33: the tape has not so many", 1, made, (x, n) -> x.cross(n, 0, 1), -1, 21, LOW, HIGH);
        BOUNDS.refusedAll("33: no such a", 1, made, (x, a) -> x.cross(20, a, 1), -1, 26, LOW, HIGH);
        BOUNDS.refusedAll("33: no such b", 1, made, (x, b) -> x.cross(20, 0, b), -1, 26, LOW, HIGH);
        BOUNDS.refusedAll("33: no such a nor b", 1, made, (x, a) -> x.cross(20, a, a), -1, 26);
        BOUNDS.refusedAll("33: an empty tape", 1, taped(Bounds.PATH, ""), (x, n) -> x.cross(n, 0, 1), -1, 1);
        BOUNDS.refused("33: none of an empty tape", 2, taped(Bounds.PATH, ""), x -> x.cross(0, 0, 1));
        BOUNDS.refusedAll("33: b stands there not at all, once", 2, made, (x, n) -> x.cross(n, 0, 1), 0, 1, 2, 3);
        BOUNDS.refusedAll("33: a of these, too", 2, made, (x, n) -> x.cross(n, 1, 0), 0, 1, 2, 3);
        BOUNDS.emptied("33: just twice", 1, made, x -> x.cross(4, 0, 1));
        BOUNDS.emptied("33: just twice, the other way", 1, made, x -> x.cross(4, 1, 0));
        BOUNDS.emptied("33: with more behind", 1, made, x -> x.cross(20, 0, 1));
        BOUNDS.emptied("33: the last of the alphabet", 1, made, x -> x.cross(9, 25, 24));
        BOUNDS.refused("33: one of them once", 2, made, x -> x.cross(8, 25, 24));
        BOUNDS.emptied("33: apart", 0, made, x -> x.cross(9, 0, 25));
        BOUNDS.emptied("33: twice, with others", 0, made, x -> x.cross(12, 2, 0));
        BOUNDS.refused("33: three times", 2, made, x -> x.cross(13, 2, 0));
        BOUNDS.refused("33: five times, the second", 2, made, x -> x.cross(20, 0, 2));
        BOUNDS.refused("33: both are one, not there", 2, made, x -> x.cross(20, 9, 9));
        BOUNDS.refused("33: both are one, three times", 2, made, x -> x.cross(13, 2, 2));
        BOUNDS.refused("33: both are one, twice", 4, made, x -> x.cross(20, 0, 0));
        BOUNDS.emptied("33: b within a", 0, taped(Bounds.PATH, "abba"), x -> x.cross(4, 0, 1));
        BOUNDS.emptied("33: a within b", 0, taped(Bounds.PATH, "abba"), x -> x.cross(4, 1, 0));
        BOUNDS.emptied("33: the letters' numbers, not POINTS", 1, taped("", "jzjz"), x -> x.cross(4, 9, 25));
        BOUNDS.refused("33: bytes beside the letters are none", 2, taped("", "a`a`z{z{"), x -> x.cross(8, 0, 24));
    }

    private static void promise33Tape() {
        ChordWords x = Bounds.of(Bounds.PATH, "ab" + " ".repeat(196) + "ab");
        BOUNDS.due("33: 199 of 200", x, x.cross(199, 0, 1), ChordWords.NONE, 2);
        BOUNDS.due("33: 201 of 200", x, x.cross(201, 0, 1), ChordWords.NONE, 1);
        BOUNDS.due("33: all 200", x, x.cross(200, 0, 1), 1, 0);
        BOUNDS.due("33: the tape is empty then", x, x.cross(1, 0, 1), ChordWords.NONE, 1);
        BOUNDS.due("3: from none on", x.feed(0, 0, 0, 0, 0), 20);
    }

    // ---- promises 34 to 36

    private static void promise34() {
        for (Net net : NETS) {
            Supplier<ChordWords> made = net.made();
            int many = net.models();
            int all = net.all();
            BOUNDS.refusedAll("34: i below 0", 1, made, (x, i) -> x.fits(i, 0), -1, LOW);
            BOUNDS.refusedAll("34: no such SET", 1, made, (x, set) -> x.fits(0, set), -1, all + 1, LOW, HIGH);
            BOUNDS.refusedAll("34: no such SET nor MODEL", 1, made, (x, set) -> x.fits(many, set), -1, all + 1);
            BOUNDS.refusedAll("34: no such MODEL", 6, made, (x, i) -> x.fits(i, 0), many, many + 1, HIGH);
            BOUNDS.refusedAll("36: no such SET", 1, made, ChordWords::could, -1, all + 1, LOW, HIGH);
        }
        BOUNDS.answered("34: without POINTS both GAPS are 0", 1, NONE, x -> x.fits(0, 0));
        BOUNDS.answeredFrom("34: of one", 0, ONE, (x, set) -> x.fits(0, set), 4, 2);
        BOUNDS.answeredFrom("34: of a path", 0, PATH, (x, set) -> x.fits(0, set),
                10, 3, 4, 3, 4, 2, 3, 2, 3, 1, 2, 1, 3, 1, 2, 1);
        BOUNDS.answered("34: of seven, near none", 16, SEVEN, x -> x.fits(359, 0));
        BOUNDS.answered("34: of seven, near all", 8, SEVEN, x -> x.fits(359, 127));
        BOUNDS.answered("34: of seven, in no GAPS", 0, SEVEN, x -> x.fits(0, 5));
    }

    private static void promise35() {
        for (Net net : NETS) {
            Supplier<ChordWords> made = net.made();
            int many = net.models();
            int all = net.all();
            BOUNDS.refusedAll("35: i below 0", 1, made, (x, i) -> x.gap(i, 0, 0, 0), -1, LOW);
            BOUNDS.refusedAll("35: no such SET", 1, made, (x, set) -> x.gap(0, set, 0, 0), -1, all + 1, LOW, HIGH);
            BOUNDS.refusedAll("35: j below 0", 1, made, (x, j) -> x.gap(0, 0, j, 0), -1, LOW);
            BOUNDS.refusedAll("35: no such what", 1, made, (x, n) -> x.gap(0, 0, 0, n), -1, 2, LOW, HIGH);
            BOUNDS.refusedAll("35: j below 0, no such MODEL", 1, made, (x, j) -> x.gap(many, 0, j, 0), -1);
            BOUNDS.refusedAll("35: no such MODEL", 6, made, (x, i) -> x.gap(i, 0, 0, 0), many, many + 1, HIGH);
        }
        couples("without POINTS", NONE, 0, 0, new long[] {0}, new long[] {0});
        couples("of one, near none", ONE, 0, 0, new long[] {0, 0, 1, 2}, new long[] {0, 2, 1, 2});
        couples("of one, near it", ONE, 0, 1, new long[] {0, 1}, new long[] {1, 2});
        couples("of a path, near 0", PATH, 0, 1, new long[] {0, 1, 2}, new long[] {1, 8, 3});
        couples("of a path, near all", PATH, 0, 15, new long[] {2}, new long[] {6});
        couples("of seven, near all", SEVEN, 0, 127, new long[] {0, 1, 2, 3, 4, 5, 6, 7},
                new long[] {7, 8, 9, 10, 11, 12, 13, 14});
        couples("of seven, in no GAPS", SEVEN, 0, 5, new long[0], new long[0]);
        couples("of three, near none", THREE, 3, 0, new long[] {0, 0, 0, 1, 1, 2, 3, 4, 4, 5, 6},
                new long[] {0, 4, 6, 1, 3, 2, 3, 4, 6, 5, 6});
    }

    private static void couples(String sentence, Supplier<ChordWords> made, int i, int set, long[] a, long[] b) {
        BOUNDS.answered("34: " + sentence, a.length, made, x -> x.fits(i, set));
        BOUNDS.answeredFrom("35: GAP a " + sentence, 0, made, (x, j) -> x.gap(i, set, j, 0), a);
        BOUNDS.answeredFrom("35: GAP b " + sentence, 0, made, (x, j) -> x.gap(i, set, j, 1), b);
        BOUNDS.refusedAll("35: no such couple " + sentence, 6, made, (x, j) -> x.gap(i, set, j, 0), a.length, HIGH);
        BOUNDS.refusedAll("35: nor a b of it " + sentence, 6, made, (x, j) -> x.gap(i, set, j, 1), a.length, HIGH);
    }

    private static void promise36() {
        BOUNDS.answered("36: of none", 1, NONE, x -> x.could(0));
        BOUNDS.answeredFrom("36: of one", 0, ONE, ChordWords::could, 1, 1);
        BOUNDS.answeredFrom("36: of three", 0, THREE, ChordWords::could, 4, 4, 4, 3, 4, 3, 3, 3);
        BOUNDS.answered("36: of seven, near none", 360, SEVEN, x -> x.could(0));
        BOUNDS.answered("36: of seven, near all", 360, SEVEN, x -> x.could(127));
        BOUNDS.answered("36: of seven, near some", 120, SEVEN, x -> x.could(3));
        BOUNDS.answered("36: in none", 0, made(Bounds.RING), x -> x.could(31));
        BOUNDS.answered("36: without a MODEL", 0, WHEEL, x -> x.could(0));
    }

    // ---- promises 37 and 38

    private static void promise37() {
        BOUNDS.answered("37: of two", 1, made("cross abab;"), x -> x.beside(0, 1));
        BOUNDS.answered("37: of two apart", 1, made("points 2;"), x -> x.beside(1, 0));
        // 0 1 0 2 1 3 2 3: 0 stands first and 3 last
        BOUNDS.answered("37: round the end", 1, PATH, x -> x.beside(0, 3));
        BOUNDS.answered("37: round the end, the other way", 1, PATH, x -> x.beside(3, 0));
        Supplier<ChordWords> apart = made("points 3;line 0 1;line 0 2;");
        BOUNDS.answered("37: beside 0 each", 1, apart, x -> x.beside(0, 2));
        // 0 1 2 0 2 1 and no other: 1 and 2 are beside each other twice
        BOUNDS.answered("37: once for one MODEL", 1, apart, x -> x.beside(1, 2));
        BOUNDS.answered("37: in none", 0, made("cross abfdbcdecaef;"), x -> x.beside(0, 3));
        BOUNDS.answered("37: in some", 3, THREE, x -> x.beside(0, 1));
        BOUNDS.answered("37: of seven", 120, SEVEN, x -> x.beside(0, 6));
        BOUNDS.answered("37: without a MODEL", 0, WHEEL, x -> x.beside(0, 5));
    }

    private static void promise38() {
        for (Net net : NETS.subList(1, NETS.size())) {
            Supplier<ChordWords> made = net.made();
            int many = net.models();
            int points = net.points();
            BOUNDS.refusedAll("38: i below 0", 1, made, (x, i) -> x.turned(i, 0), -1, LOW);
            BOUNDS.refusedAll("38: i below 0, no such POINT", 1, made, (x, i) -> x.turned(i, points), -1, LOW);
            BOUNDS.refusedAll("38: no such POINT", 2, made, (x, p) -> x.turned(0, p), -1, points, LOW, HIGH);
            BOUNDS.refusedAll("38: no such POINT nor MODEL", 2, made, (x, p) -> x.turned(many, p), -1, points);
            BOUNDS.refusedAll("38: no such MODEL", 6, made, (x, i) -> x.turned(i, 0), many, many + 1, HIGH);
        }
        BOUNDS.refusedAll("38: of none no such POINT", 2, NONE, (x, p) -> x.turned(0, p), -1, 0);
        BOUNDS.answered("38: none between", 0, ONE, x -> x.turned(0, 0));
        // 0 1 1 0 2 2: at 0 it is itself; at 2 too, with none between; 0 0 2 1 1 2 at 2: itself
        BOUNDS.answeredFrom("38: between are both letters of one", 0, THREE, (x, p) -> x.turned(3, p), 3, 3, 3);
        BOUNDS.answeredFrom("38: between are both letters of one, last", 0, THREE, (x, p) -> x.turned(2, p), 2, 2, 2);
        BOUNDS.answeredFrom("38: of the network turned there is one MODEL", 0, PATH, (x, p) -> x.turned(0, p),
                0, 0, 0, 0);
        BOUNDS.answered("38: the first of seven", 0, SEVEN, x -> x.turned(0, 0));
        BOUNDS.answered("38: the last of seven", 359, SEVEN, x -> x.turned(359, 0));
    }

    /** Words of few letters behind words of many, of one object. */
    private static void fewerLetters() {
        ChordWords x = Bounds.of(Bounds.APART);
        BOUNDS.due("29: of seven", x.letter(78479, 13), 6);
        for (int points = 6; points >= 1; points--) {
            x.drop(0);
            int last = x.many(6) - 1;
            ChordWords anew = Bounds.of(Bounds.apart(points));
            BOUNDS.due("6: MODELS of " + points, last, anew.many(6) - 1);
            for (int p = 0; p < points; p++) {
                String told = p + " of " + points;
                BOUNDS.due("29: letter " + told, x.letter(last, 2 * p + 1), anew.letter(last, 2 * p + 1));
                BOUNDS.due("30: span of " + told, x.span(last, p), anew.span(last, p));
                BOUNDS.due("38: turned at " + told, x.turned(last, p), anew.turned(last, p));
            }
            BOUNDS.due("29: behind the last of " + points, x, x.letter(last, 2 * points), ChordWords.NONE, 6);
            BOUNDS.due("31: of " + points, x.mean(last, 0), anew.mean(last, 0));
            BOUNDS.due("34: of " + points, x.fits(last, 0), anew.fits(last, 0));
            BOUNDS.due("36: of " + points, x.could(1), anew.could(1));
        }
    }

    private static void withoutModel() {
        BOUNDS.refused("29: without a MODEL", 6, WHEEL, x -> x.letter(0, 0));
        BOUNDS.refused("30: without a MODEL", 6, WHEEL, x -> x.span(0, 5));
        BOUNDS.refused("31: without a MODEL", 6, WHEEL, x -> x.mean(0, 0));
        BOUNDS.refused("34: without a MODEL", 6, WHEEL, x -> x.fits(0, 63));
        BOUNDS.refused("35: without a MODEL", 6, WHEEL, x -> x.gap(0, 63, 0, 1));
        BOUNDS.refused("38: without a MODEL", 6, WHEEL, x -> x.turned(0, 5));
        BOUNDS.answered("6: without a MODEL", 0, WHEEL, x -> x.many(6));
    }

    // ---- promises 39 and 40

    private static void promise39And40() {
        for (Supplier<ChordWords> made : List.of(NONE, ONE, PATH, THREE, SEVEN, APART, made(Bounds.RING))) {
            BOUNDS.refused("39: it has a MODEL", 6, made, ChordWords::obstruction);
            BOUNDS.refused("40: it has a MODEL", 6, made, ChordWords::obstructions);
        }
        obstructionIs("all of six", Bounds.WHEEL, 63, 1);
        obstructionIs("six of seven", Bounds.WHEEL + "points 1;", 63, 1);
        obstructionIs("six of seven, of two the least", Bounds.WHEEL + "points 1;line 6 0;line 6 1;line 6 2;line 6 3;"
                + "line 6 4;", 63, 2);
        obstructionIs("six behind the first", "points 7;line 1 2;line 2 3;line 3 4;line 4 5;line 5 1;line 1 6;line 2 6;"
                + "line 3 6;line 4 6;line 5 6;", 126, 1);
        obstructionIs("all of seven",
                "points 7;line 0 1;line 1 2;line 2 3;line 3 4;line 4 5;line 5 0;line 6 0;line 6 2;line 6 4;", 127, 1);
        BOUNDS.refused("39: all but one LINE of it", 6,
                made(Bounds.RING + "points 1;line 0 5;line 1 5;line 2 5;line 3 5;"), ChordWords::obstruction);
    }

    private static void obstructionIs(String sentence, String text, int set, int many) {
        BOUNDS.answered("39: " + sentence, set, made(text), ChordWords::obstruction);
        BOUNDS.answered("40: " + sentence, many, made(text), ChordWords::obstructions);
    }
}
