import java.util.List;
import java.util.function.Supplier;

/** Promises 17 to 28 and term 3: each bound, one step on either side of it. */
public final class SplitBoundsTest {
    private static final Bounds BOUNDS = new Bounds("SplitBoundsTest");
    private static final int LOW = Bounds.LOW;
    private static final int HIGH = Bounds.HIGH;
    private static final Supplier<ChordWords> NONE = Bounds.made("");
    private static final Supplier<ChordWords> ONE = Bounds.made("points 1;");
    private static final Supplier<ChordWords> PATH = Bounds.made(Bounds.PATH);
    private static final Supplier<ChordWords> RING = Bounds.made(Bounds.RING);
    private static final Supplier<ChordWords> WHEEL = Bounds.made(Bounds.WHEEL);
    private static final Supplier<ChordWords> SEVEN = Bounds.made(Bounds.SEVEN);
    private static final Supplier<ChordWords> APART = Bounds.made(Bounds.APART);
    private static final Supplier<ChordWords> ONE_OFF = Bounds.made(Bounds.ONE_OFF);

    public static void main(String[] args) {
        promise17Sets();
        promise17Ranks();
        promise18Sizes();
        promise18();
        promise19();
        notJoined();
        promise20();
        promise20FewPoints();
        promise21();
        promise22And23();
        piecesOfSevenJoined();
        promise24();
        promise25();
        promise26();
        promise27();
        promise28();
        BOUNDS.end();
    }

    private static Supplier<ChordWords> made(String text) {
        return Bounds.made(text);
    }

    // ---- promise 17

    private static void promise17Sets() {
        for (int points = 0; points <= 7; points++) {
            int all = (1 << points) - 1;
            for (String text : List.of(Bounds.apart(points), Bounds.joined(points))) {
                Supplier<ChordWords> made = made(text);
                BOUNDS.answered("17: of none of " + points, 0, made, x -> x.order(0));
                BOUNDS.answered("17: of all " + points, 0, made, x -> x.order(all));
                BOUNDS.refusedAll("17: a SET of POINTS that there are not all", 1, made, ChordWords::order,
                        -1, all + 1, all + 2, LOW, HIGH);
            }
        }
    }

    private static void promise17Ranks() {
        BOUNDS.answeredFrom("17: of a path, one POINT and more", 1, PATH, ChordWords::order,
                1, 1, 1, 1, 2, 2, 1, 1, 2, 2, 1, 1, 1, 1, 0);
        BOUNDS.answered("17: one, all others left out", 1, SEVEN, x -> x.order(1));
        BOUNDS.answered("17: all but one", 1, SEVEN, x -> x.order(126));
        BOUNDS.answered("17: without LINES", 0, APART, x -> x.order(7));
        Supplier<ChordWords> three = made("points 7;line 0 3;line 1 4;line 2 5;line 0 1;line 3 5;");
        BOUNDS.answered("17: the highest of seven", 3, three, x -> x.order(7));
        BOUNDS.answered("17: of what that leaves out", 3, three, x -> x.order(120));
        // each two of the three rows differ, and the third is what the others are together
        Supplier<ChordWords> two = made("points 6;line 0 3;line 0 4;line 1 4;line 1 5;line 2 3;line 2 5;");
        BOUNDS.answered("17: by counting modulo 2", 2, two, x -> x.order(7));
    }

    // ---- promises 18 and 19

    /** All JOINED by all LINES: each SET with POINT 0, two POINTS or more, and two or more left out, is a SPLIT. */
    private static void promise18Sizes() {
        for (int points = 0; points <= 7; points++) {
            Supplier<ChordWords> made = made(Bounds.joined(points));
            int i = 0;
            for (int set = 1; set < 1 << points; set += 2) {
                int size = Integer.bitCount(set);
                if (size >= 2 && points - size >= 2) {
                    int at = i;
                    BOUNDS.answered("18: rising, " + i + " of " + points, set, made, x -> x.split(at));
                    i++;
                }
            }
            BOUNDS.answered("6: SPLITS of " + points, i, made, x -> x.many(4));
            BOUNDS.refusedAll("18: none such of " + points, 6, made, ChordWords::split, i, i + 1, HIGH);
            BOUNDS.refusedAll("19: none such of " + points, 6, made, ChordWords::strong, i, i + 1, HIGH);
            BOUNDS.refusedAll("18: below 0 of " + points, 1, made, ChordWords::split, -1, LOW);
            BOUNDS.refusedAll("19: below 0 of " + points, 1, made, ChordWords::strong, -1, LOW);
        }
    }

    private static void promise18() {
        BOUNDS.answeredFrom("18: of a path of three there is none, of four", 0, PATH, ChordWords::split, 3);
        BOUNDS.refused("18: of three", 6, made("points 3;line 0 1;line 1 2;"), x -> x.split(0));
        // 0 alone on its side is no SPLIT, nor is 3: those that hold are 3, 7
        BOUNDS.answeredFrom("18: of a path of five", 0, made("points 5;line 0 1;line 1 2;line 2 3;line 3 4;"),
                ChordWords::split, 3, 7);
        BOUNDS.answeredFrom("18: of a star of four", 0, made("points 4;line 0 1;line 0 2;line 0 3;"),
                ChordWords::split, 3, 5, 9);
        BOUNDS.refused("18: PRIME", 6, RING, x -> x.split(0));
        BOUNDS.refused("18: PRIME, of six", 6, WHEEL, x -> x.split(0));
    }

    private static void promise19() {
        BOUNDS.answeredFrom("19: the only one", 0, PATH, ChordWords::strong, 1);
        BOUNDS.answeredFrom("19: beside each other", 0, made("points 5;line 0 1;line 1 2;line 2 3;line 3 4;"),
                ChordWords::strong, 1, 1);
        BOUNDS.answeredFrom("19: of four, each crosses the others", 0, made(Bounds.joined(4)), ChordWords::strong,
                0, 0, 0);
        BOUNDS.answeredFrom("19: one of four", 0, made("points 5;line 0 1;line 1 2;line 1 3;line 0 4;"),
                ChordWords::strong, 1, 0, 0, 0);
        // of 15 and 51 each has what the other leaves out, and neither is within the other
        Supplier<ChordWords> ends = made("points 6;line 0 2;line 0 4;line 2 4;line 0 1;line 2 3;line 4 5;");
        BOUNDS.answeredFrom("19: all POINTS together in two", 0, ends, ChordWords::split, 3, 15, 51);
        BOUNDS.answeredFrom("19: what the other leaves out is within it", 0, ends, ChordWords::strong, 1, 1, 1);
        BOUNDS.answered("19: the last of seven", 0, SEVEN, x -> x.strong(55));
    }

    private static void notJoined() {
        for (Supplier<ChordWords> made : List.of(made("points 2;"), ONE_OFF, made(Bounds.PATH + "points 1;"), APART)) {
            BOUNDS.refusedAll("18: not all are JOINED", 7, made, ChordWords::split, 0, 1, HIGH);
            BOUNDS.refusedAll("19: not all are JOINED", 7, made, ChordWords::strong, 0, 1, HIGH);
            BOUNDS.refusedAll("18: not all are JOINED, below 0", 1, made, ChordWords::split, -1, LOW);
            BOUNDS.refusedAll("19: not all are JOINED, below 0", 1, made, ChordWords::strong, -1, LOW);
            BOUNDS.answered("6: not all are JOINED, no SPLITS", 0, made, x -> x.many(4));
            BOUNDS.answered("25: not all are JOINED, none STRONG", 0, made, x -> x.twins(3));
            BOUNDS.answered("20: not all are JOINED, not PRIME", 0, made, ChordWords::prime);
        }
        for (Supplier<ChordWords> made : List.of(NONE, ONE)) {
            BOUNDS.refusedAll("18: all are JOINED, none such", 6, made, ChordWords::split, 0, 1);
            BOUNDS.refusedAll("19: all are JOINED, none such", 6, made, ChordWords::strong, 0, 1);
        }
    }

    // ---- promise 20

    private static void promise20() {
        BOUNDS.answered("20: five POINTS, no SPLIT", 1, RING, ChordWords::prime);
        BOUNDS.answered("20: six, no SPLIT", 1, WHEEL, ChordWords::prime);
        BOUNDS.answered("20: seven, no SPLIT", 1,
                made("points 7;line 0 1;line 1 2;line 2 3;line 3 4;line 4 5;line 5 6;line 6 0;"), ChordWords::prime);
        BOUNDS.answered("20: five POINTS, a SPLIT", 0, made("points 5;line 0 1;line 1 2;line 2 3;line 3 4;"),
                ChordWords::prime);
        BOUNDS.answered("20: a POINT apart", 0, made(Bounds.RING + "points 1;"), ChordWords::prime);
        BOUNDS.answered("20: POINT 0 apart", 0,
                made("points 6;line 1 2;line 2 3;line 3 4;line 4 5;line 5 1;"), ChordWords::prime);
        BOUNDS.answered("20: a POINT at an end", 0, made(Bounds.RING + "points 1;line 0 5;"), ChordWords::prime);
    }

    /** Fewer than five POINTS are never PRIME, though three and fewer have no SPLIT. */
    private static void promise20FewPoints() {
        for (int points = 0; points <= 4; points++) {
            for (int lines = 0; lines < 1 << points * (points - 1) / 2; lines++) {
                ChordWords x = new ChordWords();
                for (int p = 0; p < points; p++) {
                    x.add(lines >> p * (p - 1) / 2 & (1 << p) - 1);
                }
                BOUNDS.due("20: " + points + " POINTS, LINES " + lines, x, x.prime(), 0, 0);
                BOUNDS.due("24: " + points + " POINTS, LINES " + lines, x, x.plain(), 1, 0);
            }
        }
    }

    // ---- promises 21 to 24

    private static void promise21() {
        for (Supplier<ChordWords> made : List.of(NONE, PATH, SEVEN, APART)) {
            BOUNDS.refusedAll("21: no such what", 1, made, (x, n) -> x.piece(0, n), -1, 3, LOW, HIGH);
            BOUNDS.refusedAll("21: i below 0", 1, made, (x, n) -> x.piece(n, 0), -1, LOW);
            BOUNDS.refusedAll("21: no such what ahead of no such PIECE", 1, made, (x, n) -> x.piece(99, n), -1, 3);
        }
        BOUNDS.refusedAll("21: without POINTS no PIECE", 6, NONE, (x, n) -> x.piece(n, 0), 0, 1, HIGH);
        BOUNDS.refusedAll("21: behind the only PIECE", 6, ONE, (x, n) -> x.piece(n, 0), 1, 2, HIGH);
        BOUNDS.refusedAll("21: behind two PIECES", 6, PATH, (x, n) -> x.piece(n, 2), 2, 3, HIGH);
        BOUNDS.refusedAll("21: behind five PIECES", 6, SEVEN, (x, n) -> x.piece(n, 1), 5, 6, HIGH);
        BOUNDS.refusedAll("21: behind seven PIECES", 6, APART, (x, n) -> x.piece(n, 0), 7, 8, HIGH);
        pieceIs("one KNOT", ONE, 0, 0, 1, 0);
        pieceIs("two", made("cross abab;"), 0, 1, 2, 0);
        pieceIs("three with two LINES", made("points 3;line 0 1;line 1 2;"), 0, 2, 3, 0);
        pieceIs("three with three", made("cross abcabc;"), 0, 3, 3, 0);
        pieceIs("PRIME, of five", RING, 0, 4, 5, 0);
        pieceIs("PRIME, of six", WHEEL, 0, 4, 6, 0);
        pieceIs("PRIME, with a MARK", made(Bounds.RING + "points 1;line 2 5;"), 0, 4, 5, 1);
        pieceIs("PRIME, with a MARK, behind", made(Bounds.RING + "points 1;line 0 5;"), 1, 4, 5, 1);
        pieceIs("two with a MARK", made(Bounds.RING + "points 1;line 0 5;"), 0, 2, 3, 1);
        pieceIs("the first of two", PATH, 0, 2, 3, 1);
        pieceIs("the last of two", PATH, 1, 2, 3, 1);
        pieceIs("the last of seven", APART, 6, 0, 1, 0);
        pieceIs("MARKS alone",
                made("points 6;line 0 2;line 0 4;line 2 4;line 0 1;line 2 3;line 4 5;"), 3, 3, 3, 3);
    }

    private static void pieceIs(String sentence, Supplier<ChordWords> made, int i, long... want) {
        BOUNDS.answeredFrom("21: " + sentence, 0, made, (x, what) -> x.piece(i, what), want);
    }

    private static void promise22And23() {
        for (Supplier<ChordWords> made : List.of(NONE, PATH, SEVEN, APART)) {
            BOUNDS.refusedAll("22: i below 0", 1, made, (x, n) -> x.knot(n, 0), -1, LOW);
            BOUNDS.refusedAll("22: k below 0", 1, made, (x, n) -> x.knot(0, n), -1, LOW);
            BOUNDS.refusedAll("22: k below 0 ahead of no such PIECE", 1, made, (x, n) -> x.knot(99, n), -1, LOW);
            BOUNDS.refusedAll("23: i below 0", 1, made, (x, n) -> x.ties(n, 0), -1, LOW);
            BOUNDS.refusedAll("23: k below 0", 1, made, (x, n) -> x.ties(0, n), -1, LOW);
            BOUNDS.refusedAll("23: k below 0 ahead of no such PIECE", 1, made, (x, n) -> x.ties(99, n), -1, LOW);
        }
        knotsAre(NONE, 0);
        knotsAre(ONE, 1);
        knotsAre(PATH, 2);
        knotsAre(RING, 1);
        knotsAre(APART, 7);
        pieceHas("one KNOT", ONE, 0, new long[] {0}, new long[] {0});
        pieceHas("of a path", PATH, 0, new long[] {0, 1, 10}, new long[] {2, 5, 2});
        pieceHas("of a path, the other one", PATH, 1, new long[] {2, 3, 10}, new long[] {6, 1, 1});
        pieceHas("PRIME", RING, 0, new long[] {0, 1, 2, 3, 4}, new long[] {18, 5, 10, 20, 9});
        pieceHas("the last of seven", APART, 6, new long[] {6}, new long[] {0});
        // by their least POINT: 0 with 5, then 1, then 2 with 4
        Supplier<ChordWords> made = made("points 6;line 0 5;line 4 2;");
        pieceHas("by their least POINT, first", made, 0, new long[] {0, 5}, new long[] {2, 1});
        pieceHas("by their least POINT, second", made, 1, new long[] {1}, new long[] {0});
        pieceHas("by their least POINT, third", made, 2, new long[] {2, 4}, new long[] {2, 1});
        pieceHas("by their least POINT, last", made, 3, new long[] {3}, new long[] {0});
    }

    private static void knotsAre(Supplier<ChordWords> made, int pieces) {
        BOUNDS.answered("6: PIECES", pieces, made, x -> x.many(5));
        BOUNDS.refusedAll("22: no such PIECE behind " + pieces, 6, made, (x, n) -> x.knot(n, 0), pieces, HIGH);
        BOUNDS.refusedAll("23: no such PIECE behind " + pieces, 6, made, (x, n) -> x.ties(n, 0), pieces, HIGH);
    }

    private static void pieceHas(String sentence, Supplier<ChordWords> made, int i, long[] knots, long[] ties) {
        BOUNDS.answeredFrom("22: " + sentence, 0, made, (x, k) -> x.knot(i, k), knots);
        BOUNDS.answeredFrom("23: " + sentence, 0, made, (x, k) -> x.ties(i, k), ties);
        BOUNDS.answered("21: how many KNOTS, " + sentence, knots.length, made, x -> x.piece(i, 1));
        int behind = knots.length;
        BOUNDS.refusedAll("22: no such KNOT, " + sentence, 6, made, (x, k) -> x.knot(i, k), behind, behind + 1, HIGH);
        BOUNDS.refusedAll("23: no such KNOT, " + sentence, 6, made, (x, k) -> x.ties(i, k), behind, behind + 1, HIGH);
    }

    /** The most that are ever taken apart: four times, with MARKS 10 to 13. */
    private static void piecesOfSevenJoined() {
        long[][] knots = {{0, 1, 10}, {2, 3, 11}, {4, 5, 12}, {6, 10, 13}, {11, 12, 13}};
        for (int i = 0; i < knots.length; i++) {
            pieceHas("of seven joined, " + i, SEVEN, i, knots[i], new long[] {6, 5, 3});
        }
        knotsAre(SEVEN, 5);
    }

    private static void promise24() {
        BOUNDS.answered("24: no PIECES", 1, NONE, ChordWords::plain);
        BOUNDS.answered("24: one", 1, ONE, ChordWords::plain);
        BOUNDS.answered("24: seven", 1, APART, ChordWords::plain);
        BOUNDS.answered("24: all LINES", 1, SEVEN, ChordWords::plain);
        BOUNDS.answered("24: PRIME", 0, RING, ChordWords::plain);
        BOUNDS.answered("24: the first of two PRIME", 0, made(Bounds.RING + "points 2;"), ChordWords::plain);
        BOUNDS.answered("24: the last of three PRIME", 0,
                made("points 7;line 2 3;line 3 4;line 4 5;line 5 6;line 6 2;"), ChordWords::plain);
        BOUNDS.answered("24: a PIECE that comes later PRIME", 0,
                made("points 7;line 0 1;line 1 2;line 2 3;line 3 4;line 4 5;line 5 1;"), ChordWords::plain);
    }

    // ---- promises 25 to 28

    private static void promise25() {
        for (Supplier<ChordWords> made : List.of(NONE, PATH, APART)) {
            BOUNDS.refusedAll("25: no such what", 1, made, ChordWords::twins, -1, 4, LOW, HIGH);
        }
        BOUNDS.answeredFrom("25: of none", 0, NONE, ChordWords::twins, 0, 0, 0, 0);
        BOUNDS.answeredFrom("25: of one", 0, ONE, ChordWords::twins, 0, 0, 0, 0);
        BOUNDS.answeredFrom("25: of two apart", 0, made("points 2;"), ChordWords::twins, 1, 0, 0, 0);
        BOUNDS.answeredFrom("25: of two", 0, made("cross abab;"), ChordWords::twins, 0, 1, 2, 0);
        BOUNDS.answeredFrom("25: of a path", 0, PATH, ChordWords::twins, 0, 0, 2, 1);
        BOUNDS.answeredFrom("25: of seven apart", 0, APART, ChordWords::twins, 21, 0, 0, 0);
        BOUNDS.answeredFrom("25: of seven joined", 0, SEVEN, ChordWords::twins, 0, 21, 0, 0);
        BOUNDS.answeredFrom("25: all but one with just one LINE", 0,
                made("points 7;line 0 1;line 0 2;line 0 3;line 0 4;line 0 5;line 0 6;"), ChordWords::twins, 15, 0, 6, 0);
        BOUNDS.answeredFrom("25: STRONG ones", 0,
                made("points 7;line 0 1;line 1 2;line 2 3;line 3 4;line 4 5;line 5 6;"), ChordWords::twins, 0, 0, 2, 4);
    }

    private static void promise26() {
        for (Supplier<ChordWords> made : List.of(NONE, PATH, APART)) {
            BOUNDS.refusedAll("26: no such what", 1, made, ChordWords::most, -1, 2, LOW, HIGH);
        }
        BOUNDS.answeredFrom("26: of none", 0, NONE, ChordWords::most, 0, 0);
        BOUNDS.answeredFrom("26: of one", 0, ONE, ChordWords::most, 1, 1);
        BOUNDS.answeredFrom("26: of two apart, the least", 0, made("points 2;"), ChordWords::most, 1, 3);
        BOUNDS.answeredFrom("26: of two, the least", 0, made("cross abab;"), ChordWords::most, 3, 1);
        BOUNDS.answeredFrom("26: of a path, the least", 0, PATH, ChordWords::most, 3, 5);
        BOUNDS.answeredFrom("26: of seven apart", 0, APART, ChordWords::most, 1, 127);
        BOUNDS.answeredFrom("26: of seven joined", 0, SEVEN, ChordWords::most, 127, 1);
        BOUNDS.answeredFrom("26: more ahead of less", 0, made("points 6;line 0 1;line 3 4;line 4 5;line 3 5;"),
                ChordWords::most, 56, 13);
    }

    private static void promise27() {
        for (int points = 0; points <= 7; points++) {
            BOUNDS.answered("27: all joined", points, made(Bounds.joined(points)), ChordWords::colours);
            BOUNDS.answered("27: all apart", Math.min(points, 1), made(Bounds.apart(points)), ChordWords::colours);
        }
        BOUNDS.answered("27: a ring of four", 2, made("points 4;line 0 1;line 1 2;line 2 3;line 3 0;"),
                ChordWords::colours);
        BOUNDS.answered("27: a ring of five", 3, RING, ChordWords::colours);
        BOUNDS.answered("27: a POINT with LINES to all of it", 4, WHEEL, ChordWords::colours);
    }

    private static void promise28() {
        for (Supplier<ChordWords> made : List.of(NONE, PATH, SEVEN)) {
            BOUNDS.refusedAll("28: 0 to 9", 1, made, ChordWords::paintings, -1, 10, LOW, HIGH);
        }
        BOUNDS.answeredFrom("28: of none", 0, NONE, ChordWords::paintings, 1, 1, 1, 1, 1, 1, 1, 1, 1, 1);
        BOUNDS.answeredFrom("28: of one", 0, ONE, ChordWords::paintings, 0, 1, 2, 3, 4, 5, 6, 7, 8, 9);
        BOUNDS.answeredFrom("28: of two", 0, made("cross abab;"), ChordWords::paintings,
                0, 0, 2, 6, 12, 20, 30, 42, 56, 72);
        BOUNDS.answeredFrom("28: of a ring", 0, RING, ChordWords::paintings,
                0, 0, 0, 30, 240, 1020, 3120, 7770, 16800, 32760);
        BOUNDS.answeredFrom("28: of seven apart", 0, APART, ChordWords::paintings,
                0, 1, 128, 2187, 16384, 78125, 279936, 823543, 2097152, 4782969);
        BOUNDS.answeredFrom("28: of seven joined", 0, SEVEN, ChordWords::paintings,
                0, 0, 0, 0, 0, 0, 0, 5040, 40320, 181440);
    }
}
