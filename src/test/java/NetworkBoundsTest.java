import java.util.Arrays;
import java.util.Collections;
import java.util.List;
import java.util.function.Supplier;
import java.util.function.ToLongFunction;

/** Promises 1, 2 and 6 to 16, terms 1, 2 and 6: each bound, one step on either side of it. */
public final class NetworkBoundsTest {
    private static final Bounds BOUNDS = new Bounds("NetworkBoundsTest");
    private static final int LOW = Bounds.LOW;
    private static final int HIGH = Bounds.HIGH;
    private static final Supplier<ChordWords> NEW = ChordWords::new;
    private static final Supplier<ChordWords> NONE = Bounds.made("");
    private static final Supplier<ChordWords> ONE = Bounds.made("points 1;");
    private static final Supplier<ChordWords> PATH = Bounds.made(Bounds.PATH);
    private static final Supplier<ChordWords> SEVEN = Bounds.made(Bounds.SEVEN);
    private static final Supplier<ChordWords> APART = Bounds.made(Bounds.APART);

    /** For each STATUS a call that leaves it. */
    private static final List<ToLongFunction<ChordWords>> LEAVING = List.of(x -> x.near(0), x -> x.many(-1),
            x -> x.near(-1), x -> x.add(0), x -> x.flip(0, 0), x -> x.swing(0, 2), x -> x.split(9), x -> x.split(0),
            x -> x.like(0), x -> x.load(1));

    public static void main(String[] args) {
        promise1();
        promise2();
        promise6Numbers();
        promise6Acts();
        promise6AsItIsNow();
        promise7();
        promise8();
        promise9();
        promise10();
        promise11();
        promise12();
        promise12Others();
        promise13();
        promise14Twelve();
        promise14WhatIsAnAct();
        promise14Anew();
        promise15();
        promise16();
        coupleOfPoints();
        firstStatusThatHolds();
        callsOfOneObject();
        BOUNDS.end();
    }

    private static void due(String sentence, long got, long want) {
        BOUNDS.due(sentence, got, want);
    }

    // ---- promises 1 and 2

    private static void promise1() {
        due("1: STATUS 0", new ChordWords().status(), 0);
        BOUNDS.answeredFrom("1: a new object has", 0, NEW, ChordWords::many, 0, 0, 0, 0, 0, 0, 1, 1);
        BOUNDS.refusedAll("1: no POINTS", 2, NEW, ChordWords::near, 0, -1);
        BOUNDS.refusedAll("1: no SET but that of none", 1, NEW, ChordWords::order, 1, -1);
        BOUNDS.refusedAll("1: no IMAGES, like", 8, NEW, ChordWords::like, 0, 1, 2);
        BOUNDS.refusedAll("1: no IMAGES, turns", 8, NEW, ChordWords::turns, 0, 1, 2);
        BOUNDS.refusedAll("1: no IMAGES, within", 8, NEW, ChordWords::within, 0, 1, 2);
        BOUNDS.refused("1: nothing can be undone", 6, NEW, ChordWords::undo);
        BOUNDS.refusedAll("1: an empty tape", 1, NEW, ChordWords::load, 1, -1);
        BOUNDS.refusedAll("1: an empty tape, find", 1, NEW, ChordWords::find, 1, -1);
        BOUNDS.refusedAll("1: an empty tape, cross", 1, NEW, (x, n) -> x.cross(n, 0, 1), 1, -1);
        due("1: from none on", new ChordWords().feed(0, 0, 0, 0, 0), 20);
        ChordWords other = new ChordWords();
        ChordWords spoilt = Bounds.of(Bounds.WHEEL);
        spoilt.image(0);
        BOUNDS.same("1: an object of its own", State.whole(other), State.whole(new ChordWords()));
    }

    /** An object whose latest call left a STATUS. */
    private static ChordWords left(int status) {
        ChordWords x = Bounds.of(status == 3 ? Bounds.SEVEN : status == 7 ? Bounds.ONE_OFF : Bounds.PATH);
        long answer = LEAVING.get(status).applyAsLong(x);
        due("2: the answer with STATUS " + status, answer, status == 0 ? 2 : ChordWords.NONE);
        return x;
    }

    private static void promise2() {
        for (int status = 0; status <= 9; status++) {
            ChordWords x = left(status);
            due("2: of the latest call", x.status(), status);
            due("2: status() has none", x.status(), status);
            x.fault(0);
            x.fault(-1);
            due("2: fault() has none", x.status(), status);
            for (int i = 0; i < 12; i++) {
                x.feed(i, i, i, i, i);
            }
            due("2: feed() has none", x.status(), status);
            x.many(0);
            due("2: 0 else", x.status(), 0);
        }
        ChordWords x = left(4);
        x.rename(0, 9);
        due("2: of rename()", x.status(), 2);
        x.rename(0, 1);
        due("2: of rename(), 0", x.status(), 0);
        x.image(3);
        due("2: of image()", x.status(), 1);
        x.image(0);
        due("2: of image(), 0", x.status(), 0);
    }

    // ---- promises 6 and 7

    private static void promise6Numbers() {
        for (Supplier<ChordWords> made : List.of(NONE, PATH, SEVEN)) {
            BOUNDS.refusedAll("6: no such what", 1, made, ChordWords::many, -1, 8, LOW, HIGH);
        }
        BOUNDS.answeredFrom("6: of none", 0, NONE, ChordWords::many, 0, 0, 0, 2, 0, 0, 1, 1);
        BOUNDS.answeredFrom("6: of one", 0, ONE, ChordWords::many, 1, 0, 1, 2, 0, 1, 1, 1);
        BOUNDS.answeredFrom("6: of two apart", 0, Bounds.made("points 2;"), ChordWords::many, 2, 0, 2, 2, 0, 2, 1, 1);
        BOUNDS.answeredFrom("6: of two", 0, Bounds.made("cross abab;"), ChordWords::many, 2, 1, 1, 2, 0, 1, 1, 1);
        BOUNDS.answeredFrom("6: of a path", 0, PATH, ChordWords::many, 4, 3, 1, 2, 1, 2, 1, 11);
        BOUNDS.answeredFrom("6: of seven, all LINES", 0, SEVEN, ChordWords::many, 7, 21, 1, 2, 56, 5, 360, 8);
        BOUNDS.answeredFrom("6: of seven, no LINES", 0, APART, ChordWords::many, 7, 0, 7, 2, 0, 7, 78480, 1);
        BOUNDS.answeredFrom("6: without a MODEL", 0, Bounds.made(Bounds.WHEEL), ChordWords::many, 6, 10, 1, 2, 0, 1, 0,
                132);
        // with a POINT apart its other SPLITS count no more
        BOUNDS.answered("6: not all JOINED, no SPLITS", 0, Bounds.made(Bounds.PATH + "points 1;"), x -> x.many(4));
        BOUNDS.answered("6: all JOINED by one LINE", 4, Bounds.made(Bounds.PATH + "points 1;line 1 4;"),
                x -> x.many(4));
        BOUNDS.answered("6: the largest CLASS", 1096, Bounds.made("points 7;line 1 2;line 1 3;line 2 3;line 0 4;"
                + "line 3 4;line 0 5;line 2 5;line 0 6;line 1 6;"), x -> x.many(7));
    }

    /** An object with so many acts behind it; behind each act there was another network. */
    private static ChordWords acts(int many) {
        ChordWords x = new ChordWords();
        for (int i = 0; i < many; i++) {
            if (i < 7) {
                x.add(0);
            } else {
                x.flip(i - 7 < 6 ? 0 : 1, i - 7 < 6 ? i - 6 : i - 11);
            }
        }
        return x;
    }

    private static void dueActs(String sentence, ChordWords x, int acts) {
        due(sentence + ": POINTS", x.many(0), Math.min(acts, 7));
        due(sentence + ": LINES", x.many(1), Math.max(acts - 7, 0));
    }

    private static void promise6Acts() {
        for (int acts = 0; acts <= 15; acts++) {
            ChordWords x = acts(acts);
            dueActs("6: behind " + acts + " acts", x, acts);
            BOUNDS.due("6: of " + acts + " acts can be undone", x, x.many(3), Math.min(acts, 12), 0);
        }
    }

    /** All is told of the network as it is now, though it has been asked before of another with as many LINES. */
    private static void promise6AsItIsNow() {
        ChordWords x = new ChordWords();
        Told told = new Told();
        for (int points = 1; points <= 6; points++) {
            due("8: one more", x.add(0), told.add(0));
            dueNow(points + " apart", x, told);
        }
        due("10: a LINE", x.flip(4, 5), told.flip(4, 5));
        dueNow("one LINE", x, told);
        due("10: another", x.flip(1, 5), told.flip(1, 5));
        dueNow("two LINES", x, told);
        for (int left = 7; left >= 0; left--) {
            due("14: undone", x.undo(), told.undo());
            dueNow(left + " acts left", x, told);
        }
    }

    private static void dueNow(String sentence, ChordWords x, Told told) {
        for (int what = 0; what < 8; what++) {
            due("6: many " + what + ", " + sentence, x.many(what), told.many(what));
        }
        int last = told.many(6) - 1;
        due("29: " + sentence, x.letter(last, 1), told.letter(last, 1));
        due("38: " + sentence, x.turned(last, 0), told.turned(last, 0));
        due("36: " + sentence, x.could(1), told.could(1));
        due("39: " + sentence, x.obstruction(), told.obstruction());
        due("41: " + sentence, x.family(3), told.family(3));
        due("22: " + sentence, x.knot(0, 1), told.knot(0, 1));
        due("24: " + sentence, x.plain(), told.plain());
        due("25: " + sentence, x.twins(0), told.twins(0));
    }

    private static void promise7() {
        BOUNDS.refusedAll("7: no such POINT of none", 2, NONE, ChordWords::near, -1, 0, LOW, HIGH);
        BOUNDS.refusedAll("7: no such POINT of one", 2, ONE, ChordWords::near, -1, 1, LOW, HIGH);
        BOUNDS.refusedAll("7: no such POINT of four", 2, PATH, ChordWords::near, -1, 4, LOW, HIGH);
        BOUNDS.refusedAll("7: no such POINT of seven", 2, SEVEN, ChordWords::near, -1, 7, LOW, HIGH);
        BOUNDS.answeredFrom("7: alone", 0, ONE, ChordWords::near, 0);
        BOUNDS.answeredFrom("7: of a path", 0, PATH, ChordWords::near, 2, 5, 10, 4);
        BOUNDS.answeredFrom("7: all others", 0, SEVEN, ChordWords::near, 126, 125, 123, 119, 111, 95, 63);
        BOUNDS.answeredFrom("7: none", 0, APART, ChordWords::near, 0, 0, 0, 0, 0, 0, 0);
    }

    // ---- promises 8 and 9

    private static void promise8() {
        for (int points = 0; points <= 7; points++) {
            Supplier<ChordWords> made = Bounds.made(Bounds.apart(points));
            int all = (1 << points) - 1;
            BOUNDS.refusedAll("8: a SET of POINTS that there are not all", 1, made, ChordWords::add,
                    -1, all + 1, all + 2, LOW, HIGH);
            if (points == 7) {
                BOUNDS.refusedAll("8: one too many", 3, made, ChordWords::add, 0, 1, all);
            } else {
                int[] near = new int[points + 1];
                BOUNDS.acted("8: near none", points, made, x -> x.add(0), near);
                Arrays.fill(near, 1 << points);
                near[points] = all;
                BOUNDS.acted("8: near all", points, made, x -> x.add(all), near);
            }
        }
        BOUNDS.acted("8: near the first", 4, PATH, x -> x.add(1), 18, 5, 10, 4, 1);
        BOUNDS.acted("8: near the last", 4, PATH, x -> x.add(8), 2, 5, 10, 20, 8);
        BOUNDS.refusedAll("8: one too many, all with LINES", 3, SEVEN, ChordWords::add, 0, 127);
    }

    private static void promise9() {
        BOUNDS.refusedAll("9: no such POINT of none", 2, NONE, ChordWords::drop, -1, 0, LOW, HIGH);
        BOUNDS.refusedAll("9: no such POINT of four", 2, PATH, ChordWords::drop, -1, 4, LOW, HIGH);
        BOUNDS.refusedAll("9: no such POINT of seven", 2, SEVEN, ChordWords::drop, -1, 7, LOW, HIGH);
        BOUNDS.acted("9: the only one", 0, ONE, x -> x.drop(0));
        BOUNDS.acted("9: the first, all come up", 3, PATH, x -> x.drop(0), 2, 5, 2);
        BOUNDS.acted("9: one between", 3, PATH, x -> x.drop(1), 0, 4, 2);
        BOUNDS.acted("9: the last, none comes up", 3, PATH, x -> x.drop(3), 2, 5, 2);
        BOUNDS.acted("9: the first of seven", 6, SEVEN, x -> x.drop(0), 62, 61, 59, 55, 47, 31);
        BOUNDS.acted("9: the last of seven", 6, SEVEN, x -> x.drop(6), 62, 61, 59, 55, 47, 31);
    }

    // ---- promises 10 to 13

    /** Calls with two POINTS: either one may be one too low, one too high, or far off. */
    private static void couples(String sentence, Supplier<ChordWords> made, int points, PairCall call) {
        BOUNDS.refusedAll(sentence + ", the first", 2, made, (x, n) -> call.ask(x, n, 0), -1, points, LOW, HIGH);
        BOUNDS.refusedAll(sentence + ", the second", 2, made, (x, n) -> call.ask(x, 0, n), -1, points, LOW, HIGH);
        BOUNDS.refusedAll(sentence + ", both", 2, made, (x, n) -> call.ask(x, n, n), -1, points, LOW, HIGH);
        for (int p = 0; p < points; p++) {
            int one = p;
            BOUNDS.refused(sentence + ", but one: " + p, 4, made, x -> call.ask(x, one, one));
        }
    }

    private interface PairCall {
        long ask(ChordWords x, int a, int b);
    }

    private static void coupleOfPoints() {
        PairCall rename = (x, a, b) -> Bounds.told(x.rename(a, b));
        for (int points : new int[] {0, 1, 4, 7}) {
            Supplier<ChordWords> made = Bounds.made(Bounds.joined(points));
            couples("10: no such POINT of " + points, made, points, ChordWords::flip);
            couples("12: no such POINT of " + points, made, points, ChordWords::swing);
            couples("13: no such POINT of " + points, made, points, rename);
            couples("37: no such POINT of " + points, made, points, ChordWords::beside);
        }
        couples("12: without LINES, both POINTS are one ahead of no LINE", APART, 7, ChordWords::swing);
    }

    private static void promise10() {
        BOUNDS.acted("10: none, then one", 1, PATH, x -> x.flip(0, 3), 10, 5, 10, 5);
        BOUNDS.acted("10: one, then none", 0, PATH, x -> x.flip(0, 1), 0, 4, 10, 4);
        BOUNDS.acted("10: the other way", 0, PATH, x -> x.flip(3, 2), 2, 5, 2, 0);
        BOUNDS.acted("10: the last two of seven", 1, APART, x -> x.flip(6, 5), 0, 0, 0, 0, 0, 64, 32);
        BOUNDS.acted("10: the first and the last", 0, SEVEN, x -> x.flip(0, 6), 62, 125, 123, 119, 111, 95, 62);
    }

    private static void promise11() {
        for (int points : new int[] {0, 1, 4, 7}) {
            BOUNDS.refusedAll("11: no such POINT of " + points, 2, Bounds.made(Bounds.apart(points)), ChordWords::turn,
                    -1, points, LOW, HIGH);
        }
        BOUNDS.acted("11: none NEAR it", 0, ONE, x -> x.turn(0), 0);
        BOUNDS.acted("11: one NEAR it", 3, PATH, x -> x.turn(0), 2, 5, 10, 4);
        BOUNDS.acted("11: two NEAR it, none between", 4, PATH, x -> x.turn(1), 6, 5, 11, 4);
        BOUNDS.acted("11: two NEAR it, one between", 2, Bounds.made("cross abcabc;"), x -> x.turn(2), 4, 4, 3);
        BOUNDS.acted("11: six NEAR it", 6, SEVEN, x -> x.turn(6), 64, 64, 64, 64, 64, 64, 63);
        BOUNDS.acted("11: six NEAR it, none between", 21,
                Bounds.made("points 7;line 0 1;line 0 2;line 0 3;line 0 4;line 0 5;line 0 6;"), x -> x.turn(0),
                126, 125, 123, 119, 111, 95, 63);
    }

    private static void promise12() {
        BOUNDS.refused("12: there is no LINE", 5, PATH, x -> x.swing(0, 2));
        BOUNDS.refused("12: there is no LINE, the other way", 5, PATH, x -> x.swing(3, 0));
        BOUNDS.refused("12: there is no LINE in all", 5, APART, x -> x.swing(5, 6));
        BOUNDS.acted("12: two alone", 1, Bounds.made("cross abab;"), x -> x.swing(0, 1), 2, 1);
        BOUNDS.acted("12: two alone, the other way", 1, Bounds.made("cross abab;"), x -> x.swing(1, 0), 2, 1);
    }

    /** What swinging does, by its three turns. */
    private static void promise12Others() {
        for (String text : new String[] {Bounds.PATH, Bounds.RING, Bounds.WHEEL, Bounds.SEVEN}) {
            int points = Bounds.of(text).many(0);
            for (int a = 0; a < points; a++) {
                for (int b = 0; b < points; b++) {
                    ChordWords turned = Bounds.of(text);
                    if (a != b && (turned.near(a) >> b & 1) == 1) {
                        turned.turn(Math.min(a, b));
                        turned.turn(Math.max(a, b));
                        turned.turn(Math.min(a, b));
                        int[] near = new int[points];
                        for (int p = 0; p < points; p++) {
                            near[p] = turned.near(p);
                        }
                        int from = a;
                        int to = b;
                        BOUNDS.acted("12: " + a + " " + b + " of " + text, turned.many(1), Bounds.made(text),
                                x -> x.swing(from, to), near);
                    }
                }
            }
        }
    }

    private static void promise13() {
        BOUNDS.acted("13: two side by side", 1, PATH, x -> Bounds.told(x.rename(0, 1)), 6, 1, 9, 4);
        BOUNDS.acted("13: the first and the last", 1, PATH, x -> Bounds.told(x.rename(0, 3)), 4, 12, 3, 2);
        BOUNDS.acted("13: the other way", 1, PATH, x -> Bounds.told(x.rename(3, 0)), 4, 12, 3, 2);
        BOUNDS.acted("13: nothing else changes", 1, SEVEN, x -> Bounds.told(x.rename(5, 6)),
                126, 125, 123, 119, 111, 95, 63);
        for (String text : List.of(Bounds.PATH, Bounds.RING + "points 2;line 2 5;", Bounds.WHEEL)) {
            Oracle.Net net = Oracle.read(text).net;
            for (int a = 0; a < net.points(); a++) {
                for (int b = 0; b < net.points(); b++) {
                    if (a != b) {
                        exchange(text, net, a, b);
                    }
                }
            }
        }
        due("13: false", new ChordWords().rename(0, 1) ? 1 : 0, 0);
    }

    private static void exchange(String text, Oracle.Net net, int a, int b) {
        List<Integer> names = net.everyOne();
        Collections.swap(names, a, b);
        Oracle.Net due = net.part(names);
        int[] near = new int[net.points()];
        for (int p = 0; p < near.length; p++) {
            near[p] = due.near(p);
        }
        BOUNDS.acted("13: " + a + " and " + b + " of " + text, 1, Bounds.made(text), x -> Bounds.told(x.rename(a, b)),
                near);
    }

    // ---- promise 14

    private static void promise14Twelve() {
        for (int acts = 0; acts <= 15; acts++) {
            ChordWords x = acts(acts);
            int can = Math.min(acts, 12);
            for (int left = can - 1; left >= 0; left--) {
                BOUNDS.due("14: of " + acts + " acts undone to " + left, x, x.undo(), left, 0);
                due("14: can be undone still", x.many(3), left);
                dueActs("14: the latest first", x, acts - can + left);
            }
            for (int i = 0; i < 2; i++) {
                BOUNDS.due("14: of " + acts + " acts none is left", x, x.undo(), ChordWords.NONE, 6);
                dueActs("14: it stays", x, acts - can);
            }
        }
        BOUNDS.refused("14: none ever", 6, NEW, ChordWords::undo);
    }

    private static void dueAct(String sentence, boolean is, ToLongFunction<ChordWords> call) {
        ChordWords x = acts(9);
        call.applyAsLong(x);
        due("14: " + sentence + ", STATUS", x.status() == 0 ? 1 : 0, is ? 1 : 0);
        due("14: " + sentence, x.many(3), is ? 10 : 9);
    }

    private static void promise14WhatIsAnAct() {
        dueAct("load(0)", true, x -> x.load(0));
        dueAct("drop(6)", true, x -> x.drop(6));
        dueAct("flip(0, 1)", true, x -> x.flip(0, 1));
        dueAct("turn(6), which changes nothing", true, x -> x.turn(6));
        dueAct("swing(0, 1)", true, x -> x.swing(0, 1));
        dueAct("rename(5, 6), which changes nothing", true, x -> Bounds.told(x.rename(5, 6)));
        dueAct("shuffle(0, 0)", true, x -> x.shuffle(0, 0));
        dueAct("load(1) of none", false, x -> x.load(1));
        dueAct("load() with a FAULT", false, x -> Check.load(x, "?"));
        dueAct("add(0) to seven", false, x -> x.add(0));
        dueAct("drop(7)", false, x -> x.drop(7));
        dueAct("flip(0, 0)", false, x -> x.flip(0, 0));
        dueAct("turn(7)", false, x -> x.turn(7));
        dueAct("swing(3, 4)", false, x -> x.swing(3, 4));
        dueAct("rename(0, 7)", false, x -> Bounds.told(x.rename(0, 7)));
        dueAct("shuffle(0, 8)", false, x -> x.shuffle(0, 8));
        ChordWords x = acts(3);
        due("8: the fourth", x.add(0), 3);
        due("14: add(0)", x.many(3), 4);
        x.image(0);
        x.undo();
        x.like(0);
        x.sample(0, 7, 40, 0);
        x.family(0);
        x.turned(0, 0);
        x.find(0);
        due("14: no other call is one", x.many(3), 3);
    }

    private static void promise14Anew() {
        for (int undone = 0; undone <= 3; undone++) {
            for (int more = 0; more <= 4; more++) {
                ChordWords x = acts(13);
                for (int i = 0; i < undone; i++) {
                    x.undo();
                }
                for (int i = 0; i < more; i++) {
                    x.turn(6);
                }
                int can = Math.min(12, 12 - undone + more);
                String sentence = "14: undone " + undone + ", " + more + " acts more";
                due(sentence, x.many(3), can);
                for (int left = can - 1; left >= 0; left--) {
                    BOUNDS.due(sentence, x, x.undo(), left, 0);
                }
                BOUNDS.due(sentence, x, x.undo(), ChordWords.NONE, 6);
                dueActs(sentence, x, 13 - undone + more - can);
            }
        }
    }

    // ---- promises 15 and 16

    private static void promise15() {
        for (Supplier<ChordWords> made : List.of(NEW, PATH, SEVEN)) {
            BOUNDS.refusedAll("15: no such IMAGE", 1, made, (x, k) -> Bounds.told(x.image(k)), -1, 3, LOW, HIGH);
        }
        due("15: false", new ChordWords().image(3) ? 1 : 0, 0);
        for (int k = 0; k <= 2; k++) {
            for (Supplier<ChordWords> made : List.of(NONE, ONE, PATH, SEVEN, APART)) {
                ChordWords x = made.get();
                x.near(-1);
                BOUNDS.due("15: image " + k, x, Bounds.told(x.image(k)), 1, 0);
                due("15: it is as the network is, " + k, x.like(k), 1);
                due("15: no act", x.many(3), 2);
            }
            ChordWords x = PATH.get();
            x.image(k);
            x.turn(1);
            due("15: it stays as it was, " + k, x.like(k), 0);
            for (int other = 0; other <= 2; other++) {
                int want = other == k ? 0 : other == 0 ? ChordWords.NONE : 0;
                due("15: of the others none is the network, " + other, x.like(other), want);
            }
            x.image(k);
            due("15: anew", x.like(k), 1);
            x.undo();
            due("15: undo() leaves it", x.like(k), 0);
        }
    }

    private static void promise16() {
        for (Supplier<ChordWords> made : List.of(NEW, PATH, SEVEN)) {
            BOUNDS.refusedAll("16: no such IMAGE", 1, made, ChordWords::like, -1, 3, LOW, HIGH);
            BOUNDS.refused("16: there is none as yet", 8, made, x -> x.like(0));
        }
        BOUNDS.answeredFrom("16: another, and itself", 1, PATH, ChordWords::like, 0, 1);
        BOUNDS.answeredFrom("16: seven with no LINE", 1, APART, ChordWords::like, 0, 1);
        BOUNDS.answeredFrom("16: two with a LINE", 1, Bounds.made("cross abab;"), ChordWords::like, 1, 1);
        BOUNDS.answeredFrom("16: as many POINTS, no LINE", 1, Bounds.made("points 2;"), ChordWords::like, 0, 1);
        BOUNDS.answeredFrom("16: the same LINE, a POINT more", 1, Bounds.made("points 3;line 0 1;"), ChordWords::like,
                0, 1);
        BOUNDS.answeredFrom("16: none", 1, NONE, ChordWords::like, 0, 1);
        ChordWords x = new ChordWords();
        x.image(0);
        due("16: of no POINTS", x.like(0), 1);
        x.add(0);
        due("16: a POINT without LINES more", x.like(0), 0);
    }

    // ---- term 6, and 512 calls

    private static void firstStatusThatHolds() {
        BOUNDS.refused("8: no such SET ahead of one too many", 1, SEVEN, x -> x.add(128));
        BOUNDS.refused("10: no such POINT ahead of: both are one", 2, PATH, x -> x.flip(4, 4));
        BOUNDS.refused("12: no such POINT ahead of no LINE", 2, PATH, x -> x.swing(0, 4));
        BOUNDS.refused("12: both are one ahead of no LINE", 4, PATH, x -> x.swing(2, 2));
        BOUNDS.refused("16: no such IMAGE ahead of none as yet", 1, NEW, x -> x.like(3));
        BOUNDS.refused("30: i below 0 ahead of no such POINT", 1, PATH, x -> x.span(-1, 9));
        BOUNDS.refused("30: no such POINT ahead of no such MODEL", 2, PATH, x -> x.span(9, 9));
        BOUNDS.refused("33: no such number ahead of: not there", 1, PATH, x -> x.cross(11, 26, 9));
        BOUNDS.refused("33: not there ahead of: both are one", 2, PATH, x -> x.cross(11, 9, 9));
        BOUNDS.refused("42: no such IMAGE ahead of none as yet", 1, NEW, x -> x.turns(3));
        BOUNDS.refused("43: no such IMAGE ahead of none as yet", 1, NEW, x -> x.within(-1));
    }

    /** An object is used for at most 512 calls: the last of them answers as the first. */
    private static void callsOfOneObject() {
        ChordWords x = new ChordWords();
        Check.load(x, Bounds.SEVEN);
        due("11: call 4", x.turn(3), 6);
        for (int call = 5; call <= 511; call++) {
            due("11: call " + call, x.turn(3), call % 2 == 0 ? 6 : 21);
        }
        due("11: call 512", x.turn(3), 6);
        x = new ChordWords();
        for (int call = 1; call <= 255; call++) {
            due("8: call " + 2 * call, x.add(0), 0);
            due("9: call " + (2 * call + 1), x.drop(0), 0);
        }
        due("6: call 511", x.many(3), 12);
        due("14: call 512", x.undo(), 11);
    }
}
