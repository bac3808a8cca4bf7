import java.util.List;
import java.util.function.Supplier;

/** Promises 41 to 45, terms 4 and 5: each bound, one step on either side of it. */
public final class TurnBoundsTest {
    private static final Bounds BOUNDS = new Bounds("TurnBoundsTest");
    private static final int LOW = Bounds.LOW;
    private static final int HIGH = Bounds.HIGH;
    private static final Supplier<ChordWords> NEW = ChordWords::new;
    private static final Supplier<ChordWords> NONE = Bounds.made("");
    private static final Supplier<ChordWords> ONE = Bounds.made("points 1;");
    private static final Supplier<ChordWords> PATH = Bounds.made(Bounds.PATH);
    private static final Supplier<ChordWords> SEVEN = Bounds.made(Bounds.SEVEN);
    private static final Supplier<ChordWords> APART = Bounds.made(Bounds.APART);
    private static final String LARGEST = "points 7;line 1 2;line 1 3;line 2 3;line 0 4;line 3 4;line 0 5;line 2 5;"
            + "line 0 6;line 1 6;";

    public static void main(String[] args) {
        promise41();
        promise42();
        promise42Points();
        promise42HowManyTimes();
        promise43();
        promise43Parts();
        promise44();
        promise44Drawn();
        promise44And45FewerPoints();
        promise45Numbers();
        promise45();
        promise45Without();
        BOUNDS.end();
    }

    private static Supplier<ChordWords> made(String text) {
        return Bounds.made(text);
    }

    /** An object whose network one text tells, and whose IMAGE 0 another. */
    private static Supplier<ChordWords> withImage(String image, String text) {
        return () -> {
            ChordWords x = Bounds.of(image, "");
            x.image(0);
            Check.load(x, text);
            Bounds.fill(x, "cross aabb;");
            return x;
        };
    }

    // ---- promise 41

    private static void promise41() {
        for (Supplier<ChordWords> made : List.of(NEW, NONE, PATH, SEVEN)) {
            BOUNDS.refusedAll("41: no such what", 1, made, ChordWords::family, -1, 4, LOW, HIGH);
        }
        family("of none", NONE, 1, 0, 0, 1, 0);
        family("of one", ONE, 1, 0, 0, 1, 0);
        family("of two", made("cross abab;"), 1, 1, 1, 1, 1);
        family("of two apart", made("points 2;"), 1, 0, 0, 1, 0);
        family("of three", made("cross abcabc;"), 4, 2, 3, 3, 9);
        family("of a path", PATH, 11, 3, 5, 4, 42);
        family("of seven apart", APART, 1, 0, 0, 1, 0);
        family("of seven joined", SEVEN, 8, 6, 21, 7, 63);
        family("the largest", made(LARGEST), 1096, 9, 15, 8, 13320);
    }

    private static void family(String sentence, Supplier<ChordWords> made, int many, long... want) {
        BOUNDS.answered("6: NETWORKS in the CLASS, " + sentence, many, made, x -> x.many(7));
        BOUNDS.answeredFrom("41: " + sentence, 0, made, ChordWords::family, want);
    }

    // ---- promise 42

    private static void promise42() {
        for (Supplier<ChordWords> made : List.of(NEW, NONE, PATH, SEVEN)) {
            BOUNDS.refusedAll("42: no such IMAGE", 1, made, ChordWords::turns, -1, 3, LOW, HIGH);
            BOUNDS.refused("42: there is none as yet", 8, made, x -> x.turns(0));
        }
        BOUNDS.answered("42: none, itself", 0, NONE, x -> x.turns(2));
        BOUNDS.answered("42: one, itself", 0, ONE, x -> x.turns(2));
        BOUNDS.answered("42: a path, itself", 0, PATH, x -> x.turns(2));
        BOUNDS.answered("42: seven, itself", 0, SEVEN, x -> x.turns(2));
        BOUNDS.refused("42: it does not come by TURNING", 6, withImage("points 2;", "cross abab;"), x -> x.turns(0));
        BOUNDS.refused("42: nor does that", 6, withImage("cross abab;", "points 2;"), x -> x.turns(0));
        BOUNDS.refused("42: nor by other numbers", 6, withImage("points 3;line 0 1;", "points 3;line 1 2;"),
                x -> x.turns(0));
    }

    private static void promise42Points() {
        for (int points = 0; points <= 7; points++) {
            for (int kept = 0; kept <= 7; kept++) {
                Supplier<ChordWords> made = withImage(Bounds.joined(kept), Bounds.joined(points));
                if (kept == points) {
                    BOUNDS.answered("42: as many POINTS, " + points, 0, made, x -> x.turns(0));
                } else {
                    BOUNDS.refused("42: " + points + " POINTS and " + kept, 7, made, x -> x.turns(0));
                }
                if (kept <= points) {
                    BOUNDS.answered("43: " + kept + " of " + points, 1, made, x -> x.within(0));
                } else {
                    BOUNDS.refused("43: the IMAGE has more, " + kept + " and " + points, 7, made, x -> x.within(0));
                }
            }
        }
    }

    private static void promise42HowManyTimes() {
        String all = Bounds.SEVEN;
        BOUNDS.answered("42: once", 1, withImage(all, all + "turn 0;"), x -> x.turns(0));
        BOUNDS.answered("42: twice", 2, withImage(all + "turn 6;", all + "turn 0;"), x -> x.turns(0));
        BOUNDS.answered("42: twice at one is none", 0, withImage(all, all + "turn 3;turn 3;"), x -> x.turns(0));
        BOUNDS.answered("42: the fewest of four times", 1, withImage(all, all + "turn 3;turn 3;turn 1;turn 2;"),
                x -> x.turns(0));
        BOUNDS.answered("42: three times", 3, withImage(Bounds.PATH, Bounds.PATH + "turn 1;turn 2;turn 1;"),
                x -> x.turns(0));
        BOUNDS.answered("42: back by as many", 3, withImage(Bounds.PATH + "swing 1 2;", Bounds.PATH), x -> x.turns(0));
        String[] nets = {Bounds.PATH, Bounds.PATH + "turn 1;", Bounds.RING, Bounds.RING + "turn 0;turn 2;turn 4;",
            LARGEST + "turn 1;turn 3;turn 5;turn 0;"};
        for (String from : nets) {
            for (String to : nets) {
                if (Bounds.of(from).many(0) == Bounds.of(to).many(0)) {
                    Oracle.Met met = Oracle.family(Oracle.read(from).net).get(Oracle.read(to).net.key());
                    BOUNDS.answered("42: to " + to + " from " + from, met.turns, withImage(to, from), x -> x.turns(0));
                }
            }
        }
    }

    // ---- promise 43

    private static void promise43() {
        for (Supplier<ChordWords> made : List.of(NEW, NONE, PATH, SEVEN)) {
            BOUNDS.refusedAll("43: no such IMAGE", 1, made, ChordWords::within, -1, 3, LOW, HIGH);
            BOUNDS.refused("43: there is none as yet", 8, made, x -> x.within(0));
        }
        BOUNDS.answered("43: no POINTS in none", 1, NONE, x -> x.within(2));
        BOUNDS.answered("43: all POINTS, itself", 1, SEVEN, x -> x.within(2));
        BOUNDS.answered("43: all POINTS, another", 0, withImage("points 2;", "cross abab;"), x -> x.within(0));
        BOUNDS.answered("43: all POINTS, one of the CLASS", 1, withImage("cross abcabc;", "points 3;line 0 1;line 1 2;"),
                x -> x.within(0));
        BOUNDS.refused("43: no such IMAGE ahead of more POINTS", 1, NONE, x -> x.within(3));
    }

    /** The first POINTS, and no others: with a LINE between the last two alone, the first two have none. */
    private static void promise43Parts() {
        BOUNDS.answered("43: the first two", 0, withImage("cross abab;", "points 4;line 2 3;"), x -> x.within(0));
        BOUNDS.answered("43: the first two, apart", 1, withImage("points 2;", "points 4;line 2 3;"), x -> x.within(0));
        BOUNDS.answered("43: the first two of three", 1, withImage("points 2;", "cross abcabc;"), x -> x.within(0));
        BOUNDS.answered("43: the first one", 1, withImage("points 1;", Bounds.SEVEN), x -> x.within(0));
        BOUNDS.answered("43: three apart in a path", 0, withImage("points 3;", Bounds.PATH), x -> x.within(0));
        BOUNDS.answered("43: six of seven", 1, withImage(Bounds.apart(6), Bounds.SEVEN), x -> x.within(0));
        BOUNDS.answered("43: six of seven, one LINE", 0, withImage("points 6;line 0 1;", Bounds.SEVEN),
                x -> x.within(0));
    }

    // ---- promises 44 and 45

    private static void promise44() {
        for (Supplier<ChordWords> made : List.of(NEW, NONE, PATH, SEVEN)) {
            BOUNDS.refusedAll("44: no such seed", 1, made, (x, s) -> x.shuffle(s, 3), -1, 10000, LOW, HIGH);
            BOUNDS.refusedAll("44: no such n", 1, made, (x, n) -> x.shuffle(3, n), -1, 8, LOW, HIGH);
            BOUNDS.refusedAll("44: neither", 1, made, (x, n) -> x.shuffle(n, n), -1, 10000);
        }
        for (Supplier<ChordWords> made : List.of(NEW, PATH, SEVEN)) {
            BOUNDS.acted("44: no POINTS", 0, made, x -> x.shuffle(9999, 0));
            BOUNDS.acted("44: one", 0, made, x -> x.shuffle(0, 1), 0);
            // s is 26,443, 49,520, 769: draws 1, 1, 0 make a b b a of a a b b, leave it, and make b a b a
            BOUNDS.acted("44: two that CROSS", 1, made, x -> x.shuffle(2, 2), 2, 1);
        }
    }

    /** From seed 12 on s goes round at the first draw, at seed 11 at the second. */
    private static void promise44Drawn() {
        for (int seed : new int[] {0, 1, 10, 11, 12, 13, 4095, 8192, 9998, 9999}) {
            for (int n = 0; n <= 7; n++) {
                Oracle.Net net = Oracle.drawn(seed, n, 1).get(0);
                int[] near = new int[n];
                for (int p = 0; p < n; p++) {
                    near[p] = net.near(p);
                }
                int points = n;
                BOUNDS.acted("44: " + seed + ", " + n, net.lines(), PATH, x -> x.shuffle(seed, points), near);
            }
        }
    }

    /** Rows of few POINTS behind rows of many, of one object. */
    private static void promise44And45FewerPoints() {
        ChordWords x = new ChordWords();
        for (int seed = 0; seed < 60; seed++) {
            for (int n : new int[] {7, 2, 3}) {
                BOUNDS.due("44: " + seed + ", " + n, x.shuffle(seed, n), Oracle.drawn(seed, n, 1).get(0).lines());
            }
            int lines = 0;
            for (Oracle.Net net : Oracle.drawn(seed, 2, 40)) {
                lines += net.lines();
            }
            BOUNDS.due("45: " + seed, x.sample(seed, 2, 40, 0), lines);
        }
    }

    private static void promise45Numbers() {
        for (Supplier<ChordWords> made : List.of(NEW, NONE, PATH)) {
            BOUNDS.refusedAll("45: no such seed", 1, made, (x, s) -> x.sample(s, 3, 3, 0), -1, 10000, LOW, HIGH);
            BOUNDS.refusedAll("45: no such n", 1, made, (x, n) -> x.sample(3, n, 3, 0), -1, 8, LOW, HIGH);
            BOUNDS.refusedAll("45: no such m", 1, made, (x, m) -> x.sample(3, 3, m, 0), -1, 0, 41, LOW, HIGH);
            BOUNDS.refusedAll("45: no such what", 1, made, (x, what) -> x.sample(3, 3, 3, what), -1, 4, LOW, HIGH);
            BOUNDS.refusedAll("45: no such m without POINTS", 1, made, (x, m) -> x.sample(3, 0, m, 3), 0, 41);
        }
    }

    private static void promise45() {
        sampled("two that CROSS, one row", 2, 2, 1, 1, 1, 0);
        for (int seed : new int[] {0, 11, 12, 9999}) {
            for (int n = 0; n <= 7; n++) {
                for (int m : new int[] {1, 2, 39, 40}) {
                    int lines = 0;
                    int joined = 0;
                    int prime = 0;
                    for (Oracle.Net net : Oracle.drawn(seed, n, m)) {
                        lines += net.lines();
                        joined += net.joined() ? 1 : 0;
                        prime += net.prime() ? 1 : 0;
                    }
                    sampled("seed " + seed + ", " + n + ", " + m, seed, n, m, lines, joined, prime);
                }
            }
        }
    }

    private static void sampled(String sentence, int seed, int n, int m, int lines, int joined, int prime) {
        int pairs = m * n * (n - 1) / 2;
        float density = pairs == 0 ? 0 : (float) lines / (float) pairs;
        BOUNDS.answeredFrom("45: " + sentence, 0, PATH, (x, what) -> x.sample(seed, n, m, what),
                lines, joined, prime, Float.floatToIntBits(density));
    }

    private static void promise45Without() {
        for (int m : new int[] {1, 40}) {
            sampled("no POINTS, no pairs, all JOINED", 0, 0, m, 0, m, 0);
            sampled("one POINT, no pairs, all JOINED", 9999, 1, m, 0, m, 0);
        }
        BOUNDS.answered("45: two apart, DENSITY", 0, PATH, x -> x.sample(5, 2, 1, 3));
        BOUNDS.answered("45: two that CROSS, DENSITY", Float.floatToIntBits(1f), PATH, x -> x.sample(2, 2, 1, 3));
        BOUNDS.answered("45: fewer than five are never PRIME", 0, PATH, x -> x.sample(9999, 4, 40, 2));
    }
}
