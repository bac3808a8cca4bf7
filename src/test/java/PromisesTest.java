/** Each promise with ordinary numbers, the edges that the document names, and wrong numbers. */
public final class PromisesTest {
    private static final Check CHECK = new Check("PromisesTest");
    private static final String PATH = "points 4; line 0 1; line 1 2; line 2 3;";
    private static final String RING = "points 5;line 0 1;line 1 2;line 2 3;line 3 4;line 0 4;";
    private static final String WHEEL = RING + "points 1;line 0 5;line 1 5;line 2 5;line 3 5;line 4 5;";
    private static final String ONE_OFF = "cross abab; points 2;";
    private static final int ONE = Float.floatToIntBits(1.0f);

    public static void main(String[] args) {
        beginning();
        textsAndTape();
        network();
        acts();
        splits();
        counts();
        words();
        gaps();
        turnedWords();
        turnings();
        drawn();
        CHECK.end();
    }

    private static void due(String call, ChordWords x, long got, long want, int status) {
        CHECK.due(call, x, got, want, status);
    }

    private static void due(String call, ChordWords x, boolean got, boolean want, int status) {
        CHECK.due(call, x, got ? 1 : 0, want ? 1 : 0, status);
    }

    private static ChordWords empty() {
        return new ChordWords();
    }

    private static ChordWords of(String text) {
        return Check.loaded(text);
    }

    private static ChordWords points(int n) {
        return of("points " + n + ";");
    }

    private static ChordWords complete(int n) {
        ChordWords x = empty();
        for (int p = 0; p < n; p++) {
            x.add((1 << p) - 1);
        }
        return x;
    }

    // ---- promises 1 and 2

    private static void beginning() {
        newObject();
        status();
    }

    private static void newObject() {
        ChordWords x = empty();
        CHECK.due("1: status()", x.status(), 0);
        CHECK.due("1: fault(0)", x.fault(0), -1);
        CHECK.due("1: fault(1)", x.fault(1), -1);
        for (int what = 0; what < 6; what++) {
            due("1: many(" + what + ")", x, x.many(what), 0, 0);
        }
        due("1: many(6)", x, x.many(6), 1, 0);
        due("1: many(7)", x, x.many(7), 1, 0);
        for (int k = 0; k < 3; k++) {
            due("1: like(" + k + ")", x, x.like(k), -1, 8);
        }
        due("1: undo()", x, x.undo(), -1, 6);
        due("1: load(1)", x, x.load(1), -1, 1);
        CHECK.due("1: feed()", x.feed(0, 0, 0, 0, 0), 20);
    }

    private static void status() {
        ChordWords x = of(PATH);
        CHECK.due("2: of load()", x.status(), 0);
        x.many(8);
        CHECK.due("2: of many(8)", x.status(), 1);
        x.near(4);
        CHECK.due("2: of near(4)", x.status(), 2);
        x.feed(0, 0, 0, 0, 0);
        CHECK.due("2: feed() leaves it", x.status(), 2);
        x.fault(7);
        CHECK.due("2: fault() leaves it", x.status(), 2);
        CHECK.due("2: status() leaves it", x.status(), 2);
        x.flip(1, 1);
        CHECK.due("2: of flip(1, 1)", x.status(), 4);
        x.swing(0, 2);
        CHECK.due("2: of swing(0, 2)", x.status(), 5);
        x.split(1);
        CHECK.due("2: of split(1)", x.status(), 6);
        x.turns(0);
        CHECK.due("2: of turns(0)", x.status(), 8);
        x.load(1);
        CHECK.due("2: of load(1)", x.status(), 9);
        x.prime();
        CHECK.due("2: of prime()", x.status(), 0);
        x = complete(7);
        x.add(0);
        CHECK.due("2: of add(0)", x.status(), 3);
        x = of(ONE_OFF);
        x.split(0);
        CHECK.due("2: of split(0)", x.status(), 7);
    }

    // ---- promises 3 to 5

    private static void textsAndTape() {
        feed();
        load();
        goodTexts();
        faults();
        fault();
    }

    private static void feed() {
        ChordWords x = empty();
        for (int i = 1; i <= 10; i++) {
            CHECK.due("3: feed() " + i, x.feed(0x61626361, 0x62630000, 0, 0, i), 20 * i);
        }
        CHECK.due("3: feed() of more than 200", x.feed(0, 0, 0, 0, 0), -1);
        CHECK.due("3: feed() of more than 200, again", x.feed(0, 0, 0, 0, 0), -1);
        CHECK.due("3: it has no status", x.status(), 0);
        due("3: the bytes stay", x, x.cross(6, 0, 1), 1, 0);
        CHECK.due("3: the tape is empty then", x.feed(0x61616262, 0x80000000, -1, 0x63636464, 0x65656666), 20);
        due("3: the first int", x, x.cross(20, 0, 1), 0, 0);
        CHECK.due("3: feed() again", x.feed(0x61616262, 0x80000000, -1, 0x63636464, 0x65656666), 20);
        due("3: the last int, of 19 bytes", x, x.cross(19, 4, 5), -1, 2);
        due("3: the last int", x, x.cross(20, 4, 5), 0, 0);
        CHECK.due("3: the middle ones", x.feed(0x20206162, 0x63612020, 0x20206263, 0, 0), 20);
        due("3: the middle ones cross", x, x.cross(20, 0, 2), 1, 0);
        x = empty();
        x.feed(0, 0x706f696e, 0x74732031, 0x3b000000, 0);
        due("3: bytes 0 come too", x, x.load(13), -1, 9);
        CHECK.due("3: at the first", x.fault(1), 0);
    }

    private static void load() {
        ChordWords x = empty();
        due("4: load(0)", x, x.load(0), 0, 0);
        CHECK.due("4: load(0) is an act", x.many(3), 1);
        due("4: load(-1)", x, x.load(-1), -1, 1);
        due("4: load(1)", x, x.load(1), -1, 1);
        Check.feed(x, PATH);
        due("4: load(41)", x, x.load(41), -1, 1);
        due("4: load(200)", x, x.load(200), -1, 1);
        due("4: load(min)", x, x.load(Integer.MIN_VALUE), -1, 1);
        due("4: load(max)", x, x.load(Integer.MAX_VALUE), -1, 1);
        due("4: load(9), the tape stood", x, x.load(9), 4, 0);
        CHECK.due("4: lines", x.many(1), 0);
        due("4: the tape is empty then", x, x.load(1), -1, 1);
        due("4: load() of a path", x, Check.load(x, PATH), 4, 0);
        CHECK.due("4: lines", x.many(1), 3);
        due("4: load() with a fault", x, Check.load(x, "points 2;line 0 1;?"), -1, 9);
        CHECK.due("4: the old one stays", x.many(0), 4);
        CHECK.due("4: with its lines", x.many(1), 3);
        CHECK.due("4: and the acts", x.many(3), 3);
        due("4: the tape is empty then, too", x, x.load(1), -1, 1);
        due("4: it begins anew", x, Check.load(x, "points 1;"), 1, 0);
        due("4: undo()", x, x.undo(), 3, 0);
        CHECK.due("4: undone", x.many(1), 3);
        StringBuilder longest = new StringBuilder("points 7;");
        while (longest.length() < 200) {
            longest.append(' ');
        }
        due("4: 200 bytes", x, Check.load(x, longest.toString()), 7, 0);
    }

    private static void good(String text, int points, int lines) {
        ChordWords x = empty();
        due("4: " + text, x, Check.load(x, text), points, 0);
        CHECK.due("4: lines of " + text, x.many(1), lines);
        CHECK.due("5: fault(0) of " + text, x.fault(0), 0);
        CHECK.due("5: fault(1) of " + text, x.fault(1), -1);
    }

    private static void goodTexts() {
        good("   \n ", 0, 0);
        good("points 0;", 0, 0);
        good("points 7;", 7, 0);
        good("points3;points 4;", 7, 0);
        good("\n points\n2 ;line 0\n1;", 2, 1);
        good("points 3;line0 1;line 2 0;", 3, 2);
        good("cross aa;", 1, 0);
        good("cross abab;", 2, 1);
        good("cross aabb;", 2, 0);
        good("cross abba;", 2, 0);
        good("cross bacbca;cross baba;", 5, 3);
        good("cross abcdefgabcdefg;", 7, 21);
        good("points 2;cross abab;line 0 3;", 4, 2);
        good("points 4;line 0 1;line 0 2;line 0 3;turn 0;", 4, 6);
        good("points 4;line 0 1;line 0 2;line 0 3;turn 0;turn 1;", 4, 3);
        good("points 4;line 0 1;line 1 2;line 2 3;swing 2 1;", 4, 4);
        good("points 3;turn 2;line 2 1;swing 1 2;", 3, 1);
        ChordWords x = of("points 2;cross abcbac;");
        CHECK.due("4: cross stands behind the others", x.near(1), 0);
        CHECK.due("4: a crosses c", x.near(2), 16);
        CHECK.due("4: b crosses c", x.near(4), 12);
    }

    private static void bad(String text, int fault, int place) {
        ChordWords x = of(PATH);
        due("4: " + text, x, Check.load(x, text), -1, 9);
        CHECK.due("5: fault(0) of " + text, x.fault(0), fault);
        CHECK.due("5: fault(1) of " + text, x.fault(1), place);
    }

    private static void faults() {
        bad("?", 1, 0);
        bad("points 1;\t", 1, 9);
        bad("points -1;", 1, 7);
        bad("Points 1;", 1, 0);
        bad("pOints 1;", 2, 0);
        bad("points 12;", 1, 7);
        bad("points 3;line 012;", 1, 14);
        bad("points 1;\r", 1, 9);
        bad("points 1;\u0000", 1, 9);
        bad("points 1;\u00ff", 1, 9);
        bad("`", 1, 0);
        bad("{", 1, 0);
        bad("/", 1, 0);
        bad(":", 1, 0);
        bad(";", 2, 0);
        bad("1", 2, 0);
        bad("11", 1, 0);
        bad("point 1;", 2, 0);
        bad("pointss 1;", 2, 0);
        bad("turns 1;", 2, 0);
        for (String head : new String[] {"points 2;", "cross abab;", "line 0 1;", "turn 0;", "swing 0 1;"}) {
            for (int i = 0; i < head.indexOf(' '); i++) {
                bad(head.substring(0, i) + 'y' + head.substring(i + 1), 2, 0);
            }
        }
        bad("points", 2, 6);
        bad("points  ", 2, 8);
        bad("points ;", 2, 7);
        bad("points a;", 2, 7);
        bad("points 1", 2, 8);
        bad("points 1 2;", 2, 9);
        bad("points 1 a", 2, 9);
        bad("points 2;line 0;", 2, 15);
        bad("points 2;line 0 1 1;", 2, 18);
        bad("points 2;line 0 1", 2, 17);
        bad("points 2;line", 2, 13);
        bad("points 2;turn 0 1;", 2, 16);
        bad("points 2;cross ;", 2, 15);
        bad("points 2;cross 1;", 2, 15);
        bad("cross abab abab;", 2, 11);
        bad("cross ab1ab;", 7, 6);
        bad("turn 0;", 3, 5);
        bad("points 2;turn 2;", 3, 14);
        bad("points 2;line 2 0;points 1;", 3, 14);
        bad("points 2;line 0 2;", 3, 16);
        bad("points 2;line 2 2;", 3, 14);
        bad("points 2;swing 0 9;", 3, 17);
        bad("points 2;line 1 1;", 4, 16);
        bad("points 2;swing 1 1;", 4, 17);
        bad("cross abab;line 0 1;", 5, 18);
        bad("cross abab;line 1  0;", 5, 19);
        bad("cross aabb;swing 1 0;", 5, 19);
        bad("cross abab;points 2;swing 0 3;", 5, 28);
        bad("points 8;", 6, 7);
        bad("points 7;points 1;", 6, 16);
        bad("points 4;points 4", 6, 16);
        bad("points 6;cross abab;", 6, 15);
        bad("points 6;cross ab;", 6, 15);
        bad("points 7;cross aaa;", 6, 15);
        bad("cross abcdefgh;", 6, 6);
        bad("cross abcdefghabcdefgh;", 6, 6);
        bad("cross a;", 7, 6);
        bad("cross aaa;", 7, 6);
        bad("cross aaaa;", 7, 6);
        bad("cross bb;", 7, 6);
        bad("cross acac;", 7, 6);
        bad("cross abb;", 7, 6);
        bad("cross abbaa;", 7, 6);
        bad("cross line;", 7, 6);
        bad("cross abcdefgabcdefga;", 7, 6);
        bad("cross aaaaaaaaaaaaaaaaaaaaaaaaaaaaaaaa;", 7, 6);
        bad("points 1;cross zz;", 7, 15);
    }

    private static void fault() {
        ChordWords x = of(PATH);
        CHECK.due("5: fault(-1)", x.fault(-1), -1);
        CHECK.due("5: fault(2)", x.fault(2), -1);
        CHECK.due("5: it has no status", x.status(), 0);
        Check.load(x, "points 2; turn 2;");
        x.load(77);
        CHECK.due("5: of the latest with 0 or 9", x.fault(0), 3);
        CHECK.due("5: its place", x.fault(1), 15);
        x.undo();
        x.shuffle(1, 2);
        CHECK.due("5: acts leave it", x.fault(0), 3);
        x.load(0);
        CHECK.due("5: of a good one", x.fault(0), 0);
        CHECK.due("5: without a place", x.fault(1), -1);
    }

    // ---- promises 6 and 7

    private static void network() {
        many();
        near();
    }

    private static void dueMany(String name, ChordWords x, int... want) {
        for (int what = 0; what < want.length; what++) {
            due("6: many(" + what + ") of " + name, x, x.many(what), want[what], 0);
        }
    }

    private static void many() {
        dueMany("a path", of(PATH), 4, 3, 1, 1, 1, 2, 1, 11);
        dueMany("a ring of five", of(RING), 5, 5, 1, 1, 0, 1, 1, 132);
        dueMany("a wheel", of(WHEEL), 6, 10, 1, 1, 0, 1, 0);
        dueMany("one line and two points", of(ONE_OFF), 4, 1, 3, 1, 0, 3, 7, 1);
        dueMany("one point", points(1), 1, 0, 1, 1, 0, 1, 1, 1);
        dueMany("two points", points(2), 2, 0, 2, 1, 0, 2, 1, 1);
        dueMany("three points", points(3), 3, 0, 3, 1, 0, 3, 4, 1);
        dueMany("seven points", points(7), 7, 0, 7, 1, 0, 7, 78480, 1);
        dueMany("three joined", complete(3), 3, 3, 1, 3, 0, 1, 1, 4);
        dueMany("four joined", complete(4), 4, 6, 1, 4, 3, 2, 3, 5);
        dueMany("seven joined", complete(7), 7, 21, 1, 7, 56, 5, 360, 8);
        ChordWords x = of(PATH);
        due("6: many(-1)", x, x.many(-1), -1, 1);
        due("6: many(8)", x, x.many(8), -1, 1);
    }

    private static void near() {
        ChordWords x = of(PATH);
        due("7: near(0)", x, x.near(0), 2, 0);
        due("7: near(1)", x, x.near(1), 5, 0);
        due("7: near(3)", x, x.near(3), 4, 0);
        due("7: near(4)", x, x.near(4), -1, 2);
        due("7: near(-1)", x, x.near(-1), -1, 2);
        x = empty();
        due("7: near(0) of none", x, x.near(0), -1, 2);
        x = complete(7);
        due("7: near(6) of seven", x, x.near(6), 63, 0);
        due("7: near(7) of seven", x, x.near(7), -1, 2);
    }

    // ---- promises 8 to 16

    private static void acts() {
        add();
        drop();
        flip();
        turn();
        swing();
        rename();
        undo();
        image();
        like();
    }

    private static void add() {
        ChordWords x = empty();
        due("8: add(1) to none", x, x.add(1), -1, 1);
        due("8: add(-1)", x, x.add(-1), -1, 1);
        due("8: add(0)", x, x.add(0), 0, 0);
        due("8: add(2)", x, x.add(2), -1, 1);
        due("8: add(1)", x, x.add(1), 1, 0);
        due("8: add(2)", x, x.add(2), 2, 0);
        due("8: add(5)", x, x.add(5), 3, 0);
        CHECK.due("8: near(3)", x.near(3), 5);
        CHECK.due("8: near(0)", x.near(0), 10);
        CHECK.due("8: near(1)", x.near(1), 5);
        x.add(0);
        x.add(31);
        due("8: the seventh", x, x.add(63), 6, 0);
        due("8: an eighth", x, x.add(0), -1, 3);
        due("8: an eighth, near all", x, x.add(127), -1, 3);
        due("8: an eighth, of no such set", x, x.add(128), -1, 1);
        CHECK.due("8: acts", x.many(3), 7);
    }

    private static void drop() {
        ChordWords x = of(RING);
        due("9: drop(5)", x, x.drop(5), -1, 2);
        due("9: drop(-1)", x, x.drop(-1), -1, 2);
        due("9: drop(1)", x, x.drop(1), 4, 0);
        CHECK.due("9: near(0)", x.near(0), 8);
        CHECK.due("9: near(1)", x.near(1), 4);
        CHECK.due("9: near(2)", x.near(2), 10);
        CHECK.due("9: near(3)", x.near(3), 5);
        due("9: drop(3)", x, x.drop(3), 3, 0);
        CHECK.due("9: lines", x.many(1), 1);
        x.drop(0);
        x.drop(0);
        due("9: the last", x, x.drop(0), 0, 0);
        due("9: drop(0) of none", x, x.drop(0), -1, 2);
        due("9: undo()", x, x.undo(), 5, 0);
    }

    private static void flip() {
        ChordWords x = of(PATH);
        due("10: flip(0, 3)", x, x.flip(0, 3), 1, 0);
        CHECK.due("10: near(3)", x.near(3), 5);
        due("10: flip(3, 0)", x, x.flip(3, 0), 0, 0);
        due("10: flip(2, 1)", x, x.flip(2, 1), 0, 0);
        CHECK.due("10: lines", x.many(1), 2);
        due("10: flip(0, 4)", x, x.flip(0, 4), -1, 2);
        due("10: flip(-1, 0)", x, x.flip(-1, 0), -1, 2);
        due("10: flip(4, 4)", x, x.flip(4, 4), -1, 2);
        due("10: flip(3, 3)", x, x.flip(3, 3), -1, 4);
        CHECK.due("10: acts", x.many(3), 4);
    }

    private static void turn() {
        ChordWords x = of(PATH);
        due("11: turn(1)", x, x.turn(1), 4, 0);
        CHECK.due("11: near(0)", x.near(0), 6);
        due("11: turn(1)", x, x.turn(1), 3, 0);
        due("11: turn(0), one line", x, x.turn(0), 3, 0);
        due("11: turn(4)", x, x.turn(4), -1, 2);
        due("11: turn(-1)", x, x.turn(-1), -1, 2);
        x = complete(7);
        due("11: turn(3) of seven", x, x.turn(3), 6, 0);
        due("11: turn(3) back", x, x.turn(3), 21, 0);
        x = points(2);
        due("11: turn(1), no line", x, x.turn(1), 0, 0);
    }

    private static void swing() {
        ChordWords x = of("points 4;line 0 1;line 0 2;line 1 3;");
        due("12: swing(1, 0)", x, x.swing(1, 0), 4, 0);
        CHECK.due("12: near(0)", x.near(0), 10);
        CHECK.due("12: near(1)", x.near(1), 5);
        CHECK.due("12: near(2)", x.near(2), 10);
        due("12: back", x, x.swing(0, 1), 3, 0);
        CHECK.due("12: near(0)", x.near(0), 6);
        due("12: swing(0, 3)", x, x.swing(0, 3), -1, 5);
        due("12: swing(0, 4)", x, x.swing(0, 4), -1, 2);
        due("12: swing(-1, 0)", x, x.swing(-1, 0), -1, 2);
        due("12: swing(2, 2)", x, x.swing(2, 2), -1, 4);
        CHECK.due("12: acts", x.many(3), 3);
    }

    private static void rename() {
        ChordWords x = of(PATH);
        due("13: rename(0, 1)", x, x.rename(0, 1), true, 0);
        CHECK.due("13: near(0)", x.near(0), 6);
        CHECK.due("13: near(1)", x.near(1), 1);
        due("13: rename(3, 0)", x, x.rename(3, 0), true, 0);
        CHECK.due("13: near(3)", x.near(3), 6);
        CHECK.due("13: near(0)", x.near(0), 4);
        due("13: rename(0, 4)", x, x.rename(0, 4), false, 2);
        due("13: rename(-1, -1)", x, x.rename(-1, -1), false, 2);
        due("13: rename(2, 2)", x, x.rename(2, 2), false, 4);
        CHECK.due("13: acts", x.many(3), 3);
    }

    private static void undo() {
        ChordWords x = empty();
        due("14: undo() of none", x, x.undo(), -1, 6);
        x.add(0);
        for (int i = 1; i <= 12; i++) {
            x.add(0);
            x.drop(1);
        }
        CHECK.due("14: at most twelve", x.many(3), 12);
        for (int left = 11; left >= 0; left--) {
            due("14: undo() to " + left, x, x.undo(), left, 0);
            CHECK.due("14: points", x.many(0), left % 2 == 1 ? 2 : 1);
        }
        due("14: a thirteenth", x, x.undo(), -1, 6);
        CHECK.due("14: points", x.many(0), 1);
        x = of(PATH);
        x.add(1);
        x.drop(0);
        x.flip(0, 1);
        x.turn(0);
        x.flip(0, 1);
        x.swing(1, 2);
        x.rename(0, 1);
        x.shuffle(7, 3);
        CHECK.due("14: every act", x.many(3), 9);
        x.image(0);
        x.like(0);
        x.many(6);
        CHECK.due("14: no others", x.many(3), 9);
        int[] points = {4, 4, 4, 4, 4, 4, 5, 4, 0};
        int[] lines = {3, 3, 4, 3, 3, 2, 4, 3, 0};
        for (int i = 0; i < 9; i++) {
            due("14: undo() " + i, x, x.undo(), 8 - i, 0);
            CHECK.due("14: points " + i, x.many(0), points[i]);
        }
        CHECK.due("14: lines at last", x.many(1), lines[8]);
    }

    private static void image() {
        ChordWords x = of(PATH);
        due("15: image(0)", x, x.image(0), true, 0);
        due("15: image(2)", x, x.image(2), true, 0);
        due("15: image(3)", x, x.image(3), false, 1);
        due("15: image(-1)", x, x.image(-1), false, 1);
        CHECK.due("15: no act", x.many(3), 1);
        x.turn(1);
        CHECK.due("15: it stays", x.like(0), 0);
        due("15: image(0) anew", x, x.image(0), true, 0);
        CHECK.due("15: as it is now", x.like(0), 1);
        CHECK.due("15: the other stays", x.like(2), 0);
        x.undo();
        CHECK.due("15: undo() leaves images", x.like(0), 0);
        CHECK.due("15: the other is it again", x.like(2), 1);
        x = empty();
        due("15: of no points", x, x.image(1), true, 0);
        due("15: like(1)", x, x.like(1), 1, 0);
    }

    private static void like() {
        ChordWords x = of(PATH);
        due("16: like(0)", x, x.like(0), -1, 8);
        due("16: like(3)", x, x.like(3), -1, 1);
        due("16: like(-1)", x, x.like(-1), -1, 1);
        x.image(0);
        due("16: like(0) of itself", x, x.like(0), 1, 0);
        due("16: like(1)", x, x.like(1), -1, 8);
        x.add(0);
        due("16: a point more", x, x.like(0), 0, 0);
        x.drop(4);
        due("16: as it was", x, x.like(0), 1, 0);
        x.rename(1, 2);
        due("16: other numbers", x, x.like(0), 0, 0);
        x.rename(0, 3);
        due("16: the path turned round", x, x.like(0), 1, 0);
    }

    // ---- promises 17 to 24

    private static void splits() {
        order();
        split();
        strong();
        prime();
        piece();
        knotsAndTies();
        plain();
    }

    private static void order() {
        ChordWords x = of(RING);
        int[] sets = {0, 1, 3, 5, 7, 11, 15, 30, 31};
        int[] want = {0, 1, 2, 2, 2, 2, 1, 1, 0};
        for (int i = 0; i < sets.length; i++) {
            due("17: order(" + sets[i] + ")", x, x.order(sets[i]), want[i], 0);
        }
        due("17: order(32)", x, x.order(32), -1, 1);
        due("17: order(-1)", x, x.order(-1), -1, 1);
        x = complete(7);
        due("17: order(7) of seven", x, x.order(7), 1, 0);
        due("17: order(127)", x, x.order(127), 0, 0);
        x = of("points 6;line 0 3;line 1 4;line 2 5;");
        due("17: order(7) of three apart", x, x.order(7), 3, 0);
        x.flip(2, 5);
        x.flip(2, 3);
        x.flip(2, 4);
        due("17: the third is the sum of two", x, x.order(7), 2, 0);
        x = empty();
        due("17: order(0) of none", x, x.order(0), 0, 0);
        due("17: order(1) of none", x, x.order(1), -1, 1);
    }

    private static void dueSplits(String name, ChordWords x, int[] sets, int[] strong) {
        CHECK.due("6: splits of " + name, x.many(4), sets.length);
        for (int i = 0; i < sets.length; i++) {
            due("18: split(" + i + ") of " + name, x, x.split(i), sets[i], 0);
            due("19: strong(" + i + ") of " + name, x, x.strong(i), strong[i], 0);
        }
        int[] wrong = {sets.length, Integer.MAX_VALUE, -1, Integer.MIN_VALUE};
        int[] status = {6, 6, 1, 1};
        for (int i = 0; i < wrong.length; i++) {
            due("18: split(" + wrong[i] + ") of " + name, x, x.split(wrong[i]), -1, status[i]);
            due("19: strong(" + wrong[i] + ") of " + name, x, x.strong(wrong[i]), -1, status[i]);
        }
    }

    private static void split() {
        dueSplits("none", empty(), new int[0], new int[0]);
        dueSplits("one point", points(1), new int[0], new int[0]);
        dueSplits("three", complete(3), new int[0], new int[0]);
        dueSplits("four", complete(4), new int[] {3, 5, 9}, new int[] {0, 0, 0});
        dueSplits("a path", of(PATH), new int[] {3}, new int[] {1});
        dueSplits("a ring of five", of(RING), new int[0], new int[0]);
        dueSplits("a wheel", of(WHEEL), new int[0], new int[0]);
    }

    private static void strong() {
        dueSplits("a longer path", of("points 5;line 0 1;line 1 2;line 2 3;line 3 4;"), new int[] {3, 7},
                new int[] {1, 1});
        dueSplits("a tree", of("points 5;line 0 1;line 1 2;line 1 3;line 0 4;"), new int[] {17, 19, 21, 25},
                new int[] {1, 0, 0, 0});
        ChordWords x = of(ONE_OFF);
        due("18: not joined", x, x.split(0), -1, 7);
        due("18: not joined, below 0", x, x.split(-1), -1, 1);
        due("18: not joined, far off", x, x.split(99), -1, 7);
        due("19: not joined", x, x.strong(0), -1, 7);
        due("19: not joined, below 0", x, x.strong(-1), -1, 1);
        CHECK.due("6: not joined", x.many(4), 0);
        x = points(2);
        due("18: two apart", x, x.split(0), -1, 7);
    }

    private static void prime() {
        ChordWords x = of(RING);
        due("20: a ring of five", x, x.prime(), 1, 0);
        x.add(1);
        due("20: with a point at its end", x, x.prime(), 0, 0);
        x.undo();
        x.add(0);
        due("20: with a point apart", x, x.prime(), 0, 0);
        x = of(WHEEL);
        due("20: a wheel", x, x.prime(), 1, 0);
        x = of(PATH);
        due("20: a path", x, x.prime(), 0, 0);
        x = complete(3);
        due("20: three points", x, x.prime(), 0, 0);
        x = empty();
        due("20: none", x, x.prime(), 0, 0);
        x = of("points 7;line 0 1;line 1 2;line 2 3;line 3 4;line 4 5;line 5 6;line 0 6;");
        due("20: a ring of seven", x, x.prime(), 1, 0);
    }

    private static void duePieces(String name, ChordWords x, int[][] kinds, int[][] knots, int[][] ties) {
        due("6: pieces of " + name, x, x.many(5), knots.length, 0);
        for (int i = 0; i < knots.length; i++) {
            for (int what = 0; what < 3; what++) {
                String call = "piece(" + i + ", " + what + ") of " + name;
                due("21: " + call, x, x.piece(i, what), kinds[i][what], 0);
            }
            for (int k = 0; k < knots[i].length; k++) {
                due("22: knot(" + i + ", " + k + ") of " + name, x, x.knot(i, k), knots[i][k], 0);
                due("23: ties(" + i + ", " + k + ") of " + name, x, x.ties(i, k), ties[i][k], 0);
            }
            due("22: no more knots in " + i + " of " + name, x, x.knot(i, knots[i].length), -1, 6);
            due("23: no more ties in " + i + " of " + name, x, x.ties(i, knots[i].length), -1, 6);
        }
        due("21: no more pieces of " + name, x, x.piece(knots.length, 0), -1, 6);
        due("22: no more pieces of " + name, x, x.knot(knots.length, 0), -1, 6);
        due("23: no more pieces of " + name, x, x.ties(knots.length, 0), -1, 6);
    }

    private static void piece() {
        ChordWords x = of(PATH);
        due("21: piece(0, 3)", x, x.piece(0, 3), -1, 1);
        due("21: piece(0, -1)", x, x.piece(0, -1), -1, 1);
        due("21: piece(-1, 0)", x, x.piece(-1, 0), -1, 1);
        due("21: piece(9, 3)", x, x.piece(9, 3), -1, 1);
        due("21: piece(max, 0)", x, x.piece(Integer.MAX_VALUE, 0), -1, 6);
        due("22: knot(-1, 0)", x, x.knot(-1, 0), -1, 1);
        due("22: knot(0, -1)", x, x.knot(0, -1), -1, 1);
        due("22: knot(9, -1)", x, x.knot(9, -1), -1, 1);
        due("22: knot(0, max)", x, x.knot(0, Integer.MAX_VALUE), -1, 6);
        due("23: ties(-1, 0)", x, x.ties(-1, 0), -1, 1);
        due("23: ties(0, -1)", x, x.ties(0, -1), -1, 1);
        due("23: ties(max, 0)", x, x.ties(Integer.MAX_VALUE, 0), -1, 6);
        x = empty();
        due("21: piece(0, 0) of none", x, x.piece(0, 0), -1, 6);
        due("22: knot(0, 0) of none", x, x.knot(0, 0), -1, 6);
        due("23: ties(0, 0) of none", x, x.ties(0, 0), -1, 6);
    }

    private static void knotsAndTies() {
        duePieces("one point", points(1), new int[][] {{0, 1, 0}}, new int[][] {{0}}, new int[][] {{0}});
        duePieces("a path", of(PATH), new int[][] {{2, 3, 1}, {2, 3, 1}}, new int[][] {{0, 1, 10}, {2, 3, 10}},
                new int[][] {{2, 5, 2}, {6, 1, 1}});
        duePieces("a ring of five", of(RING), new int[][] {{4, 5, 0}}, new int[][] {{0, 1, 2, 3, 4}},
                new int[][] {{18, 5, 10, 20, 9}});
        duePieces("lines and a point", of("points 5;line 0 3;line 1 4;"), new int[][] {{1, 2, 0}, {1, 2, 0}, {0, 1, 0}},
                new int[][] {{0, 3}, {1, 4}, {2}}, new int[][] {{2, 1}, {2, 1}, {0}});
        // 0 1 and a mark; 2 3 4 and that mark come apart again: 2 3 and a mark, 4 and both marks
        duePieces("five joined", complete(5), new int[][] {{3, 3, 1}, {3, 3, 1}, {3, 3, 2}},
                new int[][] {{0, 1, 10}, {2, 3, 11}, {4, 10, 11}},
                new int[][] {{6, 5, 3}, {6, 5, 3}, {6, 5, 3}});
        // two paths, 0 2 4 6 and 1 3 5: the later marks are of the first piece's halves only
        duePieces("two paths", of("points 7;line 0 2;line 2 4;line 4 6;line 1 3;line 3 5;"),
                new int[][] {{2, 3, 1}, {2, 3, 0}, {2, 3, 1}}, new int[][] {{0, 2, 10}, {1, 3, 5}, {4, 6, 10}},
                new int[][] {{2, 5, 2}, {2, 5, 2}, {6, 1, 1}});
        // a ring of three, each with an end: what is left at last is three marks
        duePieces("three ends", of("points 6;line 0 2;line 0 4;line 2 4;line 0 1;line 2 3;line 4 5;"),
                new int[][] {{2, 3, 1}, {2, 3, 1}, {2, 3, 1}, {3, 3, 3}},
                new int[][] {{0, 1, 10}, {2, 3, 11}, {4, 5, 12}, {10, 11, 12}},
                new int[][] {{6, 1, 1}, {6, 1, 1}, {6, 1, 1}, {6, 5, 3}});
        duePieces("a ring of five with an end", of(RING + "points 1;line 5 2;"), new int[][] {{4, 5, 1}, {2, 3, 1}},
                new int[][] {{0, 1, 3, 4, 10}, {2, 5, 10}}, new int[][] {{10, 17, 24, 5, 6}, {6, 1, 1}});
    }

    private static void plain() {
        ChordWords x = of(PATH);
        due("24: a path", x, x.plain(), 1, 0);
        x = empty();
        due("24: none", x, x.plain(), 1, 0);
        x = complete(7);
        due("24: seven joined", x, x.plain(), 1, 0);
        x = of(RING);
        due("24: a ring", x, x.plain(), 0, 0);
        x.add(1);
        due("24: a ring with an end", x, x.plain(), 0, 0);
        x.add(0);
        due("24: and a point", x, x.plain(), 0, 0);
    }

    // ---- promises 25 to 28

    private static void counts() {
        twins();
        most();
        colours();
        paintings();
    }

    private static void dueTwins(String name, ChordWords x, int... want) {
        for (int what = 0; what < 4; what++) {
            due("25: twins(" + what + ") of " + name, x, x.twins(what), want[what], 0);
        }
        due("25: twins(4) of " + name, x, x.twins(4), -1, 1);
        due("25: twins(-1) of " + name, x, x.twins(-1), -1, 1);
    }

    private static void twins() {
        dueTwins("none", empty(), 0, 0, 0, 0);
        dueTwins("a path", of(PATH), 0, 0, 2, 1);
        dueTwins("seven joined", complete(7), 0, 21, 0, 0);
        dueTwins("seven apart", points(7), 21, 0, 0, 0);
        dueTwins("a star", of("points 4;line 0 1;line 0 2;line 0 3;"), 3, 0, 3, 0);
        dueTwins("one line and two points", of(ONE_OFF), 1, 1, 2, 0);
        dueTwins("a longer path", of("points 5;line 0 1;line 1 2;line 2 3;line 3 4;"), 0, 0, 2, 2);
        dueTwins("a ring of four", of("points 4;line 0 1;line 1 2;line 2 3;line 3 0;"), 2, 0, 0, 1);
    }

    private static void most() {
        ChordWords x = of(WHEEL);
        due("26: most(0)", x, x.most(0), 35, 0);
        due("26: most(1)", x, x.most(1), 5, 0);
        due("26: most(2)", x, x.most(2), -1, 1);
        due("26: most(-1)", x, x.most(-1), -1, 1);
        x = points(7);
        due("26: most(0) of seven apart", x, x.most(0), 1, 0);
        due("26: most(1) of seven apart", x, x.most(1), 127, 0);
        x = complete(7);
        due("26: most(0) of seven joined", x, x.most(0), 127, 0);
        due("26: most(1) of seven joined", x, x.most(1), 1, 0);
        x = of("points 6;line 0 5;line 2 3;line 3 4;line 2 4;");
        due("26: most(0) of a later one", x, x.most(0), 28, 0);
        due("26: most(1), the least", x, x.most(1), 7, 0);
        x = empty();
        due("26: most(0) of none", x, x.most(0), 0, 0);
        due("26: most(1) of none", x, x.most(1), 0, 0);
    }

    private static void colours() {
        ChordWords x = empty();
        due("27: none", x, x.colours(), 0, 0);
        x = points(3);
        due("27: apart", x, x.colours(), 1, 0);
        x = of(PATH);
        due("27: a path", x, x.colours(), 2, 0);
        x = of(RING);
        due("27: a ring of five", x, x.colours(), 3, 0);
        x = of(WHEEL);
        due("27: a wheel", x, x.colours(), 4, 0);
        x = complete(7);
        due("27: seven joined", x, x.colours(), 7, 0);
    }

    private static void duePaintings(String name, ChordWords x, long... want) {
        for (int colours = 0; colours < want.length; colours++) {
            due("28: paintings(" + colours + ") of " + name, x, x.paintings(colours), want[colours], 0);
        }
        due("28: paintings(10) of " + name, x, x.paintings(10), -1, 1);
        due("28: paintings(-1) of " + name, x, x.paintings(-1), -1, 1);
    }

    private static void paintings() {
        duePaintings("none", empty(), 1, 1, 1, 1, 1, 1, 1, 1, 1, 1);
        duePaintings("a path", of(PATH), 0, 0, 2, 24, 108, 320, 750, 1512, 2744, 4608);
        duePaintings("a ring of five", of(RING), 0, 0, 0, 30, 240, 1020, 3120, 7770, 16800, 32760);
        duePaintings("seven apart", points(7), 0, 1, 128, 2187, 16384, 78125, 279936, 823543, 2097152, 4782969);
        duePaintings("seven joined", complete(7), 0, 0, 0, 0, 0, 0, 0, 5040, 40320, 181440);
        duePaintings("a wheel", of(WHEEL), 0, 0, 0, 0, 120);
    }

    // ---- promises 29 to 33

    private static void words() {
        letter();
        span();
        mean();
        find();
        cross();
    }

    private static void dueWord(String name, ChordWords x, int i, String word) {
        for (int place = 0; place < word.length(); place++) {
            due("29: letter(" + i + ", " + place + ") of " + name, x, x.letter(i, place), word.charAt(place) - 'a', 0);
        }
        due("29: past the end of " + name, x, x.letter(i, word.length()), -1, 6);
    }

    private static void letter() {
        dueWord("a path", of(PATH), 0, "abacbdcd");
        dueWord("a ring of five", of(RING), 0, "abeadecdbc");
        dueWord("three apart", points(3), 0, "aabbcc");
        dueWord("three apart", points(3), 1, "aabccb");
        dueWord("three apart", points(3), 2, "aacbbc");
        dueWord("three apart", points(3), 3, "abbacc");
        dueWord("four joined", complete(4), 0, "abcdabcd");
        dueWord("four joined", complete(4), 1, "abdcabdc");
        dueWord("four joined", complete(4), 2, "acbdacbd");
        ChordWords x = of(PATH);
        due("29: letter(1, 0)", x, x.letter(1, 0), -1, 6);
        due("29: letter(-1, 0)", x, x.letter(-1, 0), -1, 1);
        due("29: letter(0, -1)", x, x.letter(0, -1), -1, 1);
        due("29: letter(5, -1)", x, x.letter(5, -1), -1, 1);
        due("29: letter(0, max)", x, x.letter(0, Integer.MAX_VALUE), -1, 6);
        x = empty();
        due("29: letter(0, 0) of none", x, x.letter(0, 0), -1, 6);
        x = of(WHEEL);
        due("29: letter(0, 0) of a wheel", x, x.letter(0, 0), -1, 6);
        x = points(7);
        due("29: the last of all models", x, x.letter(78479, 1), 5, 0);
        due("29: one behind", x, x.letter(78480, 1), -1, 6);
    }

    private static void span() {
        ChordWords x = of(PATH);
        int[] want = {2, 3, 3, 2};
        for (int p = 0; p < 4; p++) {
            due("30: span(0, " + p + ")", x, x.span(0, p), want[p], 0);
        }
        due("30: span(0, 4)", x, x.span(0, 4), -1, 2);
        due("30: span(0, -1)", x, x.span(0, -1), -1, 2);
        due("30: span(1, 0)", x, x.span(1, 0), -1, 6);
        due("30: span(1, 4)", x, x.span(1, 4), -1, 2);
        due("30: span(-1, 4)", x, x.span(-1, 4), -1, 1);
        x = points(3);
        due("30: the shorter way round", x, x.span(3, 0), 3, 0);
        due("30: side by side", x, x.span(3, 1), 1, 0);
        x = complete(7);
        due("30: of seven", x, x.span(0, 6), 7, 0);
        x = empty();
        due("30: of none", x, x.span(0, 0), -1, 2);
        x = points(2);
        due("30: the other way round", x, x.span(0, 1), 1, 0);
    }

    private static void mean() {
        ChordWords x = of(PATH);
        due("31: mean(0, 0)", x, x.mean(0, 0), Float.floatToIntBits(2.5f), 0);
        due("31: mean(0, 1)", x, x.mean(0, 1), Float.floatToIntBits(2.0f / 3.0f), 0);
        due("31: mean(0, 2)", x, x.mean(0, 2), -1, 1);
        due("31: mean(0, -1)", x, x.mean(0, -1), -1, 1);
        due("31: mean(-1, 0)", x, x.mean(-1, 0), -1, 1);
        due("31: mean(1, 0)", x, x.mean(1, 0), -1, 6);
        due("31: mean(1, 2)", x, x.mean(1, 2), -1, 1);
        x = points(3);
        due("31: of three apart", x, x.mean(3, 0), Float.floatToIntBits(5.0f / 3.0f), 0);
        due("31: even, of three apart", x, x.mean(3, 1), Float.floatToIntBits(1.0f / 3.0f), 0);
        x = complete(7);
        due("31: of seven", x, x.mean(359, 0), Float.floatToIntBits(7.0f), 0);
        due("31: even, of seven", x, x.mean(359, 1), ONE, 0);
        x = empty();
        due("31: of none", x, x.mean(0, 0), 0, 0);
        due("31: even, of none", x, x.mean(0, 1), ONE, 0);
    }

    private static void dueFind(ChordWords x, String word, int want, int status) {
        due("32: find() of " + word, x, x.find(Check.feed(x, word)), want, status);
        if (status == 0) {
            due("32: the tape is empty then", x, x.load(1), -1, 1);
        } else {
            due("32: the tape stays", x, x.load(1), -1, 9);
        }
    }

    private static void find() {
        ChordWords x = of(PATH);
        for (String word : new String[] {"abacbdcd", "bacbdcda", "dabacbdc", "dcdbcaba", "abadcdbc", "cdabacbd"}) {
            dueFind(x, word, 0, 0);
        }
        for (String word : new String[] {"abacbddc", "abab", "abacbdcda", "abacbdce", "aaaaaaaa", "abacbdc ", "abacbdc"}) {
            dueFind(x, word, -1, 6);
        }
        due("32: find(0)", x, x.find(0), -1, 6);
        due("32: find(1)", x, x.find(1), -1, 1);
        due("32: find(-1)", x, x.find(-1), -1, 1);
        x = points(3);
        dueFind(x, "bbccaa", 0, 0);
        dueFind(x, "cbbcaa", 2, 0);
        dueFind(x, "cabbac", 3, 0);
        dueFind(x, "bccbaa", 1, 0);
        x = empty();
        due("32: find(0) of none", x, x.find(0), 0, 0);
        x.feed(0x61610000, 0, 0, 0, 0);
        due("32: find(0), more on the tape", x, x.find(0), 0, 0);
        due("32: it is empty then", x, x.load(1), -1, 1);
        x = of(WHEEL);
        dueFind(x, "abcdefabcdef", -1, 6);
        x = complete(7);
        dueFind(x, "abcdefgabcdefg", 0, 0);
        dueFind(x, "gfedcbagfedcba", 0, 0);
        x.feed(0x61626364, 0x65666761, 0x62636465, 0x66670000, 0);
        due("32: find(15)", x, x.find(15), -1, 6);
        due("32: find(21)", x, x.find(21), -1, 1);
        due("32: find(14)", x, x.find(14), 0, 0);
    }

    private static void dueCross(String word, int a, int b, int want, int status) {
        ChordWords x = empty();
        due("33: cross(" + a + ", " + b + ") in " + word, x, x.cross(Check.feed(x, word), a, b), want, status);
        due("33: the tape then", x, x.load(1), -1, status == 0 ? 1 : 9);
    }

    private static void cross() {
        dueCross("abab", 0, 1, 1, 0);
        dueCross("abab", 1, 0, 1, 0);
        dueCross("abba", 0, 1, 0, 0);
        dueCross("abba", 1, 0, 0, 0);
        dueCross("aabb", 0, 1, 0, 0);
        dueCross("zyzy", 25, 24, 1, 0);
        dueCross("zyzy", 25, 26, -1, 1);
        dueCross("zyzy", 26, 25, -1, 1);
        dueCross("zyzy", -1, 25, -1, 1);
        dueCross("zyzy", 25, 25, -1, 4);
        dueCross("zyzy", 23, 25, -1, 2);
        dueCross("zyzy", 25, 0, -1, 2);
        dueCross("zyzy", 1, 1, -1, 2);
        dueCross("abaab", 0, 1, -1, 2);
        dueCross("abaab", 1, 0, -1, 2);
        dueCross("a?b a;b", 0, 1, 1, 0);
        dueCross("acbaccbc", 0, 1, 1, 0);
        ChordWords x = of(PATH);
        due("33: cross(1, 0, 1)", x, x.cross(1, 0, 1), -1, 1);
        due("33: cross(-1, 0, 1)", x, x.cross(-1, 0, 1), -1, 1);
        due("33: cross(0, 0, 1)", x, x.cross(0, 0, 1), -1, 2);
        x.feed(0x61626162, 0x61000000, 0, 0, 0);
        due("33: cross(3, 0, 1)", x, x.cross(3, 0, 1), -1, 2);
        due("33: cross(5, 0, 1)", x, x.cross(5, 0, 1), -1, 2);
        due("33: cross(4, 0, 1)", x, x.cross(4, 0, 1), 1, 0);
        CHECK.due("33: no act", x.many(3), 1);
    }

    // ---- promises 34 to 36

    private static void gaps() {
        fits();
        gap();
        could();
    }

    private static void fits() {
        ChordWords x = of(PATH);
        due("34: fits(0, 0)", x, x.fits(0, 0), 10, 0);
        due("34: fits(0, 1)", x, x.fits(0, 1), 3, 0);
        due("34: fits(0, 15)", x, x.fits(0, 15), 1, 0);
        due("34: fits(0, 13)", x, x.fits(0, 13), 1, 0);
        due("34: fits(0, 16)", x, x.fits(0, 16), -1, 1);
        due("34: fits(0, -1)", x, x.fits(0, -1), -1, 1);
        due("34: fits(-1, 0)", x, x.fits(-1, 0), -1, 1);
        due("34: fits(1, 0)", x, x.fits(1, 0), -1, 6);
        due("34: fits(1, 16)", x, x.fits(1, 16), -1, 1);
        x = empty();
        due("34: fits(0, 0) of none", x, x.fits(0, 0), 1, 0);
        due("34: fits(0, 1) of none", x, x.fits(0, 1), -1, 1);
        x = points(1);
        due("34: fits(0, 0) of one", x, x.fits(0, 0), 4, 0);
        due("34: fits(0, 1) of one", x, x.fits(0, 1), 2, 0);
        x = complete(7);
        due("34: fits(0, 127) of seven", x, x.fits(0, 127), 8, 0);
        due("34: fits(0, 0) of seven", x, x.fits(0, 0), 16, 0);
    }

    private static void dueGaps(ChordWords x, int i, int set, int... couples) {
        int many = couples.length / 2;
        for (int j = 0; j < many; j++) {
            String call = "35: gap(" + i + ", " + set + ", " + j + ", ";
            due(call + "0)", x, x.gap(i, set, j, 0), couples[2 * j], 0);
            due(call + "1)", x, x.gap(i, set, j, 1), couples[2 * j + 1], 0);
        }
        due("35: no more of " + set, x, x.gap(i, set, many, 0), -1, 6);
        due("35: no more of " + set, x, x.gap(i, set, many, 1), -1, 6);
        CHECK.due("34: as many as there are", x.fits(i, set), many);
    }

    private static void gap() {
        ChordWords x = points(1);
        dueGaps(x, 0, 0, 0, 0, 0, 2, 1, 1, 2, 2);
        dueGaps(x, 0, 1, 0, 1, 1, 2);
        dueGaps(of(PATH), 0, 1, 0, 1, 1, 8, 2, 3);
        dueGaps(of(PATH), 0, 0, 0, 0, 0, 8, 1, 1, 2, 2, 3, 3, 4, 4, 5, 5, 6, 6, 7, 7, 8, 8);
        dueGaps(complete(7), 0, 127, 0, 7, 1, 8, 2, 9, 3, 10, 4, 11, 5, 12, 6, 13, 7, 14);
        dueGaps(empty(), 0, 0, 0, 0);
        x = of(PATH);
        due("35: j below 0", x, x.gap(0, 0, -1, 0), -1, 1);
        due("35: i below 0", x, x.gap(-1, 0, 0, 0), -1, 1);
        due("35: no such set", x, x.gap(0, 16, 0, 0), -1, 1);
        due("35: no such what", x, x.gap(0, 0, 0, 2), -1, 1);
        due("35: what below 0", x, x.gap(0, 0, 0, -1), -1, 1);
        due("35: no such model", x, x.gap(1, 0, 0, 0), -1, 6);
        due("35: no such model nor what", x, x.gap(1, 0, 0, 2), -1, 1);
        due("35: j far off", x, x.gap(0, 0, Integer.MAX_VALUE, 0), -1, 6);
    }

    private static void could() {
        ChordWords x = of(PATH);
        for (int set = 0; set < 16; set++) {
            due("36: could(" + set + ")", x, x.could(set), 1, 0);
            CHECK.due("36: as fits() says of " + set, x.fits(0, set) > 0, true);
        }
        due("36: could(16)", x, x.could(16), -1, 1);
        due("36: could(-1)", x, x.could(-1), -1, 1);
        x = points(3);
        due("36: three apart, near none", x, x.could(0), 4, 0);
        due("36: near 0", x, x.could(1), 4, 0);
        due("36: near 0 and 1", x, x.could(3), 3, 0);
        due("36: near all", x, x.could(7), 3, 0);
        x = of(RING);
        due("36: a ring, near all", x, x.could(31), 0, 0);
        x = complete(7);
        due("36: seven, near all", x, x.could(127), 360, 0);
        due("36: seven, near none", x, x.could(0), 360, 0);
        due("36: seven, near 0 and 1", x, x.could(3), 120, 0);
        x = empty();
        due("36: none", x, x.could(0), 1, 0);
        x = of(WHEEL);
        due("36: a wheel", x, x.could(0), 0, 0);
    }

    // ---- promises 37 to 40

    private static void turnedWords() {
        beside();
        turned();
        obstruction();
    }

    private static void beside() {
        ChordWords x = of(PATH);
        int[][] want = {{0, 1, 1}, {0, 2, 1}, {0, 3, 1}, {1, 2, 1}, {1, 3, 1}, {2, 3, 1}};
        for (int[] row : want) {
            due("37: beside(" + row[0] + ", " + row[1] + ")", x, x.beside(row[0], row[1]), row[2], 0);
        }
        due("37: beside(0, 4)", x, x.beside(0, 4), -1, 2);
        due("37: beside(-1, 0)", x, x.beside(-1, 0), -1, 2);
        due("37: beside(4, 4)", x, x.beside(4, 4), -1, 2);
        due("37: beside(2, 2)", x, x.beside(2, 2), -1, 4);
        x = points(3);
        due("37: three apart", x, x.beside(0, 1), 3, 0);
        due("37: the other way", x, x.beside(1, 0), 3, 0);
        x = complete(7);
        due("37: seven joined", x, x.beside(5, 6), 120, 0);
        x = of(WHEEL);
        due("37: a wheel", x, x.beside(0, 1), 0, 0);
        x = of("cross ababcdcd;");
        int near = x.beside(0, 1);
        due("37: two that cross, alone", x, near, x.many(6), 0);
    }

    private static void turned() {
        ChordWords x = of(PATH);
        due("38: turned(0, 0)", x, x.turned(0, 0), 0, 0);
        due("38: turned(0, 1)", x, x.turned(0, 1), 0, 0);
        due("38: turned(1, 0)", x, x.turned(1, 0), -1, 6);
        due("38: turned(-1, 0)", x, x.turned(-1, 0), -1, 1);
        due("38: turned(0, 4)", x, x.turned(0, 4), -1, 2);
        due("38: turned(9, 4)", x, x.turned(9, 4), -1, 2);
        due("38: turned(-1, 4)", x, x.turned(-1, 4), -1, 1);
        x = points(3);
        // abbacc, what stands between both a the other way round: itself; aabccb at b: itself
        due("38: three apart", x, x.turned(3, 0), 3, 0);
        due("38: three apart", x, x.turned(1, 1), 1, 0);
        x = empty();
        due("38: none", x, x.turned(0, 0), -1, 2);
        x = of(WHEEL);
        due("38: a wheel", x, x.turned(0, 0), -1, 6);
        // in all orders of a b c d that cross, between both a the others turn round: then none of them cross
        x = complete(4);
        for (int i = 0; i < 3; i++) {
            String word = new String[] {"abcdadcb", "abdcacdb", "acbdadbc"}[i];
            ChordWords star = of("points 4;line 0 1;line 0 2;line 0 3;");
            due("38: four joined, " + i, x, x.turned(i, 0), star.find(Check.feed(star, word)), 0);
        }
        CHECK.due("38: no act", x.many(3), 4);
    }

    private static void obstruction() {
        ChordWords x = of(WHEEL);
        due("39: a wheel", x, x.obstruction(), 63, 0);
        due("40: a wheel", x, x.obstructions(), 1, 0);
        x.add(0);
        x.rename(0, 6);
        due("39: a wheel behind a point", x, x.obstruction(), 126, 0);
        due("40: a wheel behind a point", x, x.obstructions(), 1, 0);
        x = of(WHEEL);
        x.add(31);
        due("39: two hubs", x, x.obstruction(), 63, 0);
        due("40: two hubs", x, x.obstructions(), 2, 0);
        x.rename(0, 5);
        due("39: two hubs, one of them 0", x, x.obstruction(), 63, 0);
        x = of(PATH);
        due("39: a path", x, x.obstruction(), -1, 6);
        due("40: a path", x, x.obstructions(), -1, 6);
        x = empty();
        due("39: none", x, x.obstruction(), -1, 6);
        due("40: none", x, x.obstructions(), -1, 6);
        x = complete(7);
        due("39: seven joined", x, x.obstruction(), -1, 6);
        // a ring of six and a point near every other one: no smaller part of it is without a model
        x = of("points 7;line 0 1;line 1 2;line 2 3;line 3 4;line 4 5;line 5 0;line 6 0;line 6 2;line 6 4;");
        due("39: seven at once", x, x.obstruction(), 127, 0);
        due("40: seven at once", x, x.obstructions(), 1, 0);
    }

    // ---- promises 41 to 43

    private static void turnings() {
        family();
        turns();
        within();
    }

    private static void dueFamily(String name, ChordWords x, int... want) {
        for (int what = 0; what < 4; what++) {
            due("41: family(" + what + ") of " + name, x, x.family(what), want[what], 0);
        }
        due("41: family(4) of " + name, x, x.family(4), -1, 1);
        due("41: family(-1) of " + name, x, x.family(-1), -1, 1);
    }

    private static void family() {
        dueFamily("none", empty(), 0, 0, 1, 0);
        dueFamily("one point", points(1), 0, 0, 1, 0);
        dueFamily("a path", of(PATH), 3, 5, 4, 42);
        dueFamily("seven joined", complete(7), 6, 21, 7, 63);
        dueFamily("three joined", complete(3), 2, 3, 3, 9);
        dueFamily("one line and two points", of(ONE_OFF), 1, 1, 1, 1);
        ChordWords largest = of("points 7;line 1 2;line 1 3;line 2 3;line 0 4;line 3 4;line 0 5;line 2 5;line 0 6;"
                + "line 1 6;");
        dueMany("the largest class", largest, 7, 9, 1, 1, 0, 1, 0, 1096);
        dueFamily("the largest class", largest, 9, 15, 8, 13320);
        ChordWords x = of(PATH);
        x.family(0);
        CHECK.due("41: it stays as it was", x.many(1), 3);
    }

    private static void turns() {
        ChordWords x = of(PATH);
        due("42: no image", x, x.turns(0), -1, 8);
        due("42: turns(3)", x, x.turns(3), -1, 1);
        due("42: turns(-1)", x, x.turns(-1), -1, 1);
        x.image(0);
        due("42: itself", x, x.turns(0), 0, 0);
        x.turn(1);
        due("42: one", x, x.turns(0), 1, 0);
        x.turn(2);
        due("42: two", x, x.turns(0), 2, 0);
        x.turn(1);
        due("42: three", x, x.turns(0), 3, 0);
        x.turn(1);
        x.turn(2);
        x.turn(1);
        due("42: back", x, x.turns(0), 0, 0);
        x.flip(0, 1);
        due("42: it does not come", x, x.turns(0), -1, 6);
        x.add(0);
        due("42: more points", x, x.turns(0), -1, 7);
        x.image(1);
        x.undo();
        due("42: fewer points", x, x.turns(1), -1, 7);
        x = empty();
        x.image(2);
        due("42: none", x, x.turns(2), 0, 0);
        x = complete(7);
        x.image(0);
        x.turn(3);
        x.image(1);
        x.turn(3);
        x.turn(5);
        due("42: from star to star", x, x.turns(1), 2, 0);
        due("42: from star to all", x, x.turns(0), 1, 0);
    }

    private static void within() {
        ChordWords x = complete(3);
        due("43: no image", x, x.within(0), -1, 8);
        due("43: within(3)", x, x.within(3), -1, 1);
        due("43: within(-1)", x, x.within(-1), -1, 1);
        x.image(0);
        due("43: itself", x, x.within(0), 1, 0);
        x.drop(0);
        due("43: the image has more", x, x.within(0), -1, 7);
        x.flip(0, 1);
        x.image(1);
        Check.load(x, PATH);
        due("43: three joined in a path", x, x.within(0), 1, 0);
        due("43: two apart in a path", x, x.within(1), 1, 0);
        x.flip(0, 1);
        x.flip(1, 2);
        due("43: three joined in a line", x, x.within(0), 0, 0);
        due("43: two apart in a line", x, x.within(1), 1, 0);
        Check.load(x, "cross abab;points 3;");
        due("43: two that always cross", x, x.within(1), 0, 0);
        x.load(0);
        x.image(2);
        due("43: none in none", x, x.within(2), 1, 0);
        due("43: two in none", x, x.within(1), -1, 7);
        x.shuffle(3, 7);
        due("43: none in seven", x, x.within(2), 1, 0);
    }

    // ---- promises 44 and 45

    private static void drawn() {
        shuffle();
        sample();
    }

    private static void shuffle() {
        ChordWords x = of(PATH);
        due("44: shuffle(5, 2)", x, x.shuffle(5, 2), 0, 0);
        CHECK.due("44: points", x.many(0), 2);
        // s is 26,443, 49,520, 769: the draws are 1, 1, 0: a a b b becomes a b b a, stays, becomes b a b a
        due("44: shuffle(2, 2)", x, x.shuffle(2, 2), 1, 0);
        for (int n = 0; n <= 7; n++) {
            for (int seed : new int[] {0, 1, 77, 4093, 9999}) {
                due("44: shuffle(" + seed + ", " + n + ")", x, x.shuffle(seed, n), drawnLines(seed, n), 0);
                CHECK.due("44: points", x.many(0), n);
            }
        }
        CHECK.due("44: acts", x.many(3), 12);
        due("44: shuffle(-1, 2)", x, x.shuffle(-1, 2), -1, 1);
        due("44: shuffle(10000, 2)", x, x.shuffle(10000, 2), -1, 1);
        due("44: shuffle(0, 8)", x, x.shuffle(0, 8), -1, 1);
        due("44: shuffle(0, -1)", x, x.shuffle(0, -1), -1, 1);
        due("44: shuffle(0, 0)", x, x.shuffle(0, 0), 0, 0);
    }

    private static int drawnLines(int seed, int n) {
        return Oracle.drawn(seed, n, 1).get(0).lines();
    }

    private static void sample() {
        ChordWords x = of(PATH);
        int[] want = {1, 1, 0, ONE};
        for (int what = 0; what < 4; what++) {
            due("45: sample(2, 2, 1, " + what + ")", x, x.sample(2, 2, 1, what), want[what], 0);
        }
        due("45: the least seed", x, x.sample(0, 5, 1, 0), drawnLines(0, 5), 0);
        due("45: one row is as shuffled", x, x.sample(77, 7, 1, 0), drawnLines(77, 7), 0);
        int lines = 0;
        int joined = 0;
        int prime = 0;
        for (Oracle.Net net : Oracle.drawn(9999, 7, 40)) {
            lines += net.lines();
            joined += net.joined() ? 1 : 0;
            prime += net.prime() ? 1 : 0;
        }
        due("45: lines", x, x.sample(9999, 7, 40, 0), lines, 0);
        due("45: joined", x, x.sample(9999, 7, 40, 1), joined, 0);
        due("45: prime", x, x.sample(9999, 7, 40, 2), prime, 0);
        due("45: density", x, x.sample(9999, 7, 40, 3), Float.floatToIntBits((float) lines / 840.0f), 0);
        CHECK.due("45: some are joined", joined > 0 && joined < 40, true);
        CHECK.due("45: some are prime", prime > 0 && prime < joined, true);
        for (int n = 0; n < 2; n++) {
            due("45: no lines of " + n, x, x.sample(1, n, 3, 0), 0, 0);
            due("45: all joined of " + n, x, x.sample(1, n, 3, 1), 3, 0);
            due("45: none prime of " + n, x, x.sample(1, n, 3, 2), 0, 0);
            due("45: no density of " + n, x, x.sample(1, n, 3, 3), 0, 0);
        }
        int[][] wrong = {{-1, 2, 1, 0}, {10000, 2, 1, 0}, {0, -1, 1, 0}, {0, 8, 1, 0}, {0, 2, 0, 0}, {0, 2, 41, 0},
            {0, 2, 1, 4}, {0, 2, 1, -1}};
        for (int[] w : wrong) {
            due("45: sample(" + w[0] + ", " + w[1] + ", " + w[2] + ", " + w[3] + ")", x,
                    x.sample(w[0], w[1], w[2], w[3]), -1, 1);
        }
        CHECK.due("45: no act", x.many(3), 1);
        CHECK.due("45: the network stays", x.many(1), 3);
    }
}
