import java.util.function.Supplier;

/** Promises 3 to 5 and term 1, TEXTS and FAULTS: each bound, one step on either side of it. */
public final class TextBoundsTest {
    private static final Bounds BOUNDS = new Bounds("TextBoundsTest");
    private static final int BLANKS = 0x20202020;

    public static void main(String[] args) {
        promise3Full();
        promise3Places();
        promise3HighBytes();
        promise4Numbers();
        promise4Tape();
        promise4Refused();
        promise5();
        longestTexts();
        everyByte();
        blanksAndTokens();
        everyPrefix();
        noTokenAndMisplaced();
        noSuchPoint();
        onePointAndNoLine();
        moreThanSeven();
        noSuchWord();
        firstAlongTheText();
        BOUNDS.end();
    }

    private static void due(String sentence, long got, long want) {
        BOUNDS.due(sentence, got, want);
    }

    private static int feedBlanks(ChordWords x) {
        return x.feed(BLANKS, BLANKS, BLANKS, BLANKS, BLANKS);
    }

    /** A text on a tape that is then full of blanks. */
    private static ChordWords full(String text) {
        return Bounds.of(Bounds.PATH, text + " ".repeat(200 - text.length()));
    }

    // ---- promise 3

    private static void promise3Full() {
        ChordWords x = new ChordWords();
        x.near(0);
        for (int length = 20; length <= 200; length += 20) {
            due("3: the tape has then", feedBlanks(x), length);
            due("3: STATUS stays", x.status(), 2);
        }
        for (int i = 0; i < 2; i++) {
            due("3: there would be more than 200", feedBlanks(x), ChordWords.NONE);
            due("3: STATUS stays when it is full", x.status(), 2);
        }
        x = full("cross abab;");
        x.swing(0, 2);
        due("3: full, with letters", x.feed(0x3f3f3f3f, -1, 0, 1, 2), ChordWords.NONE);
        due("3: STATUS stays then, too", x.status(), 5);
        BOUNDS.same("3: full", State.whole(x), State.whole(full("cross abab;")));
        x = full("cross abab;");
        x.load(200);
        due("3: from none again", feedBlanks(x), 20);
    }

    /** A sign that no TOKEN begins with tells its place; the bytes ahead of it are a text of blanks. */
    private static void promise3Places() {
        for (int place = 0; place < 200; place++) {
            String text = " ".repeat(place) + "?" + " ".repeat(199 - place);
            ChordWords x = new ChordWords();
            Check.feed(x, text);
            BOUNDS.due("4: the first " + place + " bytes", x, x.load(place), 0, 0);
            Check.feed(x, text);
            BOUNDS.due("4: the first " + (place + 1) + " bytes", x, x.load(place + 1), ChordWords.NONE, 9);
            due("3: byte " + place + " stands there", x.fault(1), place);
            Check.feed(x, text);
            BOUNDS.due("4: all 200 bytes", x, x.load(200), ChordWords.NONE, 9);
            due("3: byte " + place + " still stands there", x.fault(1), place);
        }
    }

    /** A letter's byte with the highest bit is no letter; ints below 0 are four bytes as others are. */
    private static void promise3HighBytes() {
        int[] fours = {0xe1202020, 0x20e12020, 0x2020e120, 0x202020e1, -1, Integer.MIN_VALUE, 0x20ffffff, 0x20208000};
        int[] places = {0, 1, 2, 3, 0, 0, 1, 2};
        for (int i = 0; i < fours.length; i++) {
            ChordWords x = new ChordWords();
            x.feed(BLANKS, fours[i], BLANKS, BLANKS, BLANKS);
            BOUNDS.due("3: an int's bytes, " + i, x, x.load(20), ChordWords.NONE, 9);
            due("3: no TOKEN begins so, " + i, x.fault(0), 1);
            due("3: the highest first, " + i, x.fault(1), 4 + places[i]);
        }
        ChordWords x = new ChordWords();
        x.feed(0x61e16261, 0xe1e262e2, Integer.MAX_VALUE, Integer.MIN_VALUE, -1);
        BOUNDS.due("3: letters between others", x, x.cross(20, 0, 1), 1, 0);
    }

    // ---- promises 4 and 5

    private static void promise4Numbers() {
        BOUNDS.refusedAll("4: the tape has not so many", 1, Bounds.made(Bounds.PATH), ChordWords::load,
                -1, 21, 201, Bounds.LOW, Bounds.HIGH);
        BOUNDS.refusedAll("4: an empty tape has not so many", 1, () -> Bounds.of(Bounds.PATH, ""), ChordWords::load,
                -1, 1, Bounds.LOW, Bounds.HIGH);
        BOUNDS.refusedAll("4: a full tape has not so many", 1, () -> full("points 1;"), ChordWords::load,
                -1, 201, Bounds.LOW, Bounds.HIGH);
        loads("4: all of an empty tape", () -> Bounds.of(Bounds.PATH, ""), 0);
        loads("4: no byte of twenty", Bounds.made(Bounds.PATH, "points 3;"), 0);
        loads("4: nine bytes of twenty", Bounds.made(Bounds.PATH, "points 3;points 2;"), 9, 0, 0, 0);
        loads("4: all twenty", Bounds.made(Bounds.PATH, "points 3;points 2;"), 20, 0, 0, 0, 0, 0);
        loads("4: 200 bytes", () -> full("points 2;line 0 1;"), 200, 2, 1);
        loads("4: 199 of 200", () -> full("points 2;line 0 1;"), 199, 2, 1);
        loads("4: no POINTS", Bounds.made(Bounds.PATH, "points 0;"), 9);
        loads("4: seven", Bounds.made(Bounds.PATH, "points 7;"), 9, 0, 0, 0, 0, 0, 0, 0);
    }

    /** A good text: how many points, no fault, an empty tape, and an act that can be undone. */
    private static void loads(String sentence, Supplier<ChordWords> made, int n, int... near) {
        ChordWords x = made.get();
        int acts = x.many(3);
        x.near(-1);
        BOUNDS.due(sentence, x, x.load(n), near.length, 0);
        due("5: without a FAULT, " + sentence, x.fault(0), 0);
        due("5: without a place, " + sentence, x.fault(1), ChordWords.NONE);
        due("5: STATUS stays, " + sentence, x.status(), 0);
        BOUNDS.network(sentence, x, near);
        due("14: an act more, " + sentence, x.many(3), acts + 1);
        dueEmptyTape(sentence, x);
        BOUNDS.due("14: undone, " + sentence, x, x.undo(), acts, 0);
        BOUNDS.same(sentence, State.past(x), State.past(made.get()));
    }

    private static void good(String sentence, String text, int... near) {
        loads(sentence + ": " + text, Bounds.made(Bounds.PATH, text), text.length(), near);
    }

    private static void dueEmptyTape(String sentence, ChordWords x) {
        BOUNDS.due("4: the tape is empty then, " + sentence, x, x.load(1), ChordWords.NONE, 1);
        due("3: from none on, " + sentence, feedBlanks(x), 20);
    }

    /** A text with a FAULT: NONE, the old network stays, with all acts and images; the tape is empty. */
    private static void bad(String sentence, String text, int kind, int place) {
        String told = sentence + ": " + text;
        ChordWords x = Bounds.of(Bounds.PATH, text);
        x.near(-1);
        BOUNDS.due(told, x, x.load(text.length()), ChordWords.NONE, 9);
        due("5: the FAULT, " + told, x.fault(0), kind);
        due("5: its place, " + told, x.fault(1), place);
        due("5: STATUS stays, " + told, x.status(), 9);
        dueEmptyTape(told, x);
        BOUNDS.same(told, State.past(x), State.past(Bounds.of(Bounds.PATH)));
    }

    private static void promise4Tape() {
        ChordWords x = Bounds.of(Bounds.PATH, "points 3;line 0 1; line 1 2;");
        due("4: forty bytes", feedBlanks(x), 60);
        BOUNDS.due("4: fewer than the tape has", x, x.load(18), 3, 0);
        due("4: with their line", x.many(1), 1);
        dueEmptyTape("with some left behind", x);
        x = Bounds.of(Bounds.PATH, "points 3;line 0 3; line 1 2;");
        BOUNDS.due("4: fewer, with a FAULT", x, x.load(18), ChordWords.NONE, 9);
        dueEmptyTape("with a FAULT and some left behind", x);
    }

    private static void promise4Refused() {
        ChordWords x = new ChordWords();
        for (int i = 0; i < 3; i++) {
            BOUNDS.due("4: refused, it is no act", x, x.load(1), ChordWords.NONE, 1);
            due("14: none can be undone", x.many(3), 0);
        }
        Check.feed(x, "points 2;line 0 0;");
        BOUNDS.due("4: a FAULT, it is no act", x, x.load(18), ChordWords.NONE, 9);
        due("14: none can be undone still", x.many(3), 0);
        due("4: no POINTS, as it was", x.many(0), 0);
    }

    private static void promise5() {
        ChordWords x = new ChordWords();
        dueFaults("ahead of any", x, ChordWords.NONE, ChordWords.NONE);
        x.load(1);
        dueFaults("ahead of any, one refused", x, ChordWords.NONE, ChordWords.NONE);
        x.shuffle(1, 3);
        dueFaults("ahead of any, an act", x, ChordWords.NONE, ChordWords.NONE);
        Check.load(x, "points 7; points 1;");
        dueFaults("with STATUS 9", x, 6, 17);
        x.load(1);
        dueFaults("with STATUS 9, one refused", x, 6, 17);
        x.undo();
        dueFaults("with STATUS 9, an act undone", x, 6, 17);
        Check.load(x, "?");
        dueFaults("at the first byte", x, 1, 0);
        x.load(0);
        dueFaults("with STATUS 0", x, 0, ChordWords.NONE);
        x.load(-1);
        dueFaults("with STATUS 0, one refused", x, 0, ChordWords.NONE);
        x.undo();
        dueFaults("with STATUS 0, undone", x, 0, ChordWords.NONE);
    }

    private static void dueFaults(String sentence, ChordWords x, int kind, int place) {
        for (int status : new int[] {0, 2}) {
            x.near(status == 0 && x.many(0) > 0 ? 0 : -1);
            int ahead = x.status();
            due("5: " + sentence, x.fault(0), kind);
            due("5: the place " + sentence, x.fault(1), place);
            for (int what : new int[] {-1, 2, Bounds.LOW, Bounds.HIGH}) {
                due("5: for others " + sentence + ", " + what, x.fault(what), ChordWords.NONE);
            }
            due("5: it has no STATUS " + sentence, x.status(), ahead);
        }
    }

    // ---- term 1: texts

    private static void longestTexts() {
        good("4: lines of it as many as 200 bytes have", "points1;" + "turn0;".repeat(32), 0);
        good("4: signs and blanks as many as 200 bytes have", "points 2;" + " ".repeat(182) + "line 1 0;", 2, 1);
        bad("4: the last of 200 bytes", "points 2;" + "\n".repeat(190) + "?", 1, 199);
        bad("4: the end of 200 bytes", "points 2;" + " ".repeat(185) + "turn 0", 2, 200);
        bad("4: a WORD of 200 bytes", "points".repeat(33) + "po", 2, 0);
        bad("4: a WORD of 190 letters", "cross " + "a".repeat(190) + ";", 7, 6);
        bad("4: 200 DIGITS", "1".repeat(200), 1, 0);
        good("4: no line of it", "");
        good("4: blanks alone", " \n\n  ");
    }

    private static void everyByte() {
        for (char sign = 0; sign < 256; sign++) {
            boolean blank = sign == 10 || sign == 32;
            boolean token = sign >= 'a' && sign <= 'z' || sign >= '0' && sign <= '9' || sign == ';';
            String one = "4: the byte " + (int) sign;
            if (blank) {
                good(one, "" + sign);
                good(one + " behind a DIGIT", "points 1" + sign + ";", 0);
                good(one + " ahead of a DIGIT", "points" + sign + "1;", 0);
                good(one + " behind the SIGN", "points 1;" + sign, 0);
            } else {
                bad(one, "" + sign, token ? 2 : 1, 0);
                bad(one + " behind the SIGN", "points 1;" + sign, token ? 2 : 1, 9);
            }
            if (!blank && sign != ';') {
                boolean digit = sign >= '0' && sign <= '9';
                bad(one + " behind a DIGIT", "points 1" + sign + ";", digit || !token ? 1 : 2, digit ? 7 : 8);
            }
            if (sign == 'a') {
                good(one + " in a WORD", "cross a" + sign + ";", 0);
            } else {
                bad(one + " in a WORD", "cross a" + sign + ";", 7, 6);
            }
        }
    }

    private static void blanksAndTokens() {
        good("4: no blanks", "points3;line0 1;turn0;", 2, 1, 0);
        good("4: blanks wherever they can stand", " \npoints  3 \n;\n line\n0\n\n1 ; ", 2, 1, 0);
        bad("4: a blank in a WORD", "poi nts 3;", 2, 0);
        bad("4: no blank between WORDS", "crossabab;", 2, 0);
        bad("4: no blank between DIGITS", "points 2;line 01;", 1, 14);
        bad("4: blanks between DIGITS that are one too many", "points 0 7;", 2, 9);
        bad("4: the SIGN twice", "points 1;;", 2, 9);
        bad("4: the SIGN alone", " ;", 2, 1);
    }

    private static void everyPrefix() {
        String[] texts = {"points 3;line 2 0; turn 2;swing 0 2;cross abab;", "cross abcabc ;\nline 0 1;", "points 77;",
            "points 5; cross abcabc;", "line 1 1;", " turn\n7 ;", "swing 00 ;"};
        for (String text : texts) {
            for (int n = 0; n <= text.length(); n++) {
                Oracle.Text read = Oracle.read(text.substring(0, n));
                if (read.fault != 0) {
                    bad("4: the first of a text", text.substring(0, n), read.fault, read.place);
                } else {
                    int[] near = new int[read.net.points()];
                    for (int p = 0; p < near.length; p++) {
                        near[p] = read.net.near(p);
                    }
                    good("4: the first of a text", text.substring(0, n), near);
                }
            }
        }
    }

    // ---- term 1: faults

    private static void noTokenAndMisplaced() {
        bad("5: DIGITS side by side, at the first", "points 11;", 1, 7);
        bad("5: three of them", "points 111;", 1, 7);
        bad("5: DIGITS side by side where none can stand, the least kind", "11;", 1, 0);
        bad("5: one where none can stand", "1;", 2, 0);
        bad("5: DIGITS side by side where the SIGN should", "points 1 11;", 1, 9);
        bad("5: DIGITS side by side where a WORD should", "cross 11;", 1, 6);
        bad("5: the second of two", "points 2;line 0 11;", 1, 16);
        bad("5: no TOKEN where none can stand", "points 1 ?", 1, 9);
        bad("5: the end where a line ends", "points 1", 2, 8);
        bad("5: the end, with blanks", "points 1 \n ", 2, 11);
        bad("5: the end behind a WORD", "points 1;line", 2, 13);
        bad("5: the end behind the first DIGIT", "points 2;line 0", 2, 15);
        bad("5: the end behind cross", "cross ", 2, 6);
        bad("5: a WORD more", "points 1;abab;", 2, 9);
        bad("5: a WORD for a DIGIT", "points a;", 2, 7);
        bad("5: a DIGIT for a WORD", "cross 1;", 2, 6);
        bad("5: a DIGIT too few", "points 2;swing 0;", 2, 16);
        bad("5: a DIGIT too many", "points 2;turn 0 1;", 2, 16);
        bad("5: a letter too few", "point 1;", 2, 0);
        bad("5: a letter too many", "lines 0 1;", 2, 0);
        for (String head : new String[] {"points", "line", "cross", "turn", "swing"}) {
            for (int i = 0; i < head.length(); i++) {
                bad("5: a letter else", head.substring(0, i) + 'y' + head.substring(i + 1) + " 0;", 2, 0);
            }
        }
    }

    private static void noSuchPoint() {
        for (int points = 0; points <= 7; points++) {
            String text = "points " + points + ";";
            for (int p = 0; p <= 9; p++) {
                if (p >= points) {
                    bad("5: no such POINT", text + "turn " + p + ";", 3, 14);
                    bad("5: no such POINT, the first", text + "line " + p + " 0;", 3, 14);
                    bad("5: no such POINT, the first", text + "swing " + p + " " + p + ";", 3, 15);
                    bad("5: no such POINT, the second", text + "line 0 " + p + ";", 3, points == 0 ? 14 : 16);
                    bad("5: no such POINT, the second", text + "swing 0 " + p + ";", 3, points == 0 ? 15 : 17);
                } else {
                    good("5: there is such a POINT", text + "turn " + p + ";", new int[points]);
                }
            }
        }
        good("5: the last POINT", "points 2;line 1 0;", 2, 1);
        bad("5: no such POINT, as yet", "points 1;line 0 1;points 1;", 3, 16);
        good("5: there is one by then", "points 1;points 1;line 0 1;", 2, 1);
        good("5: there is one by cross", "points 1;cross aa;line 0 1;", 2, 1);
    }

    private static void onePointAndNoLine() {
        bad("5: the second POINT is the first", "points 1;line 0 0;", 4, 16);
        bad("5: the last POINT twice", "points 7;line 6 6;", 4, 16);
        bad("5: of swing, ahead of: there is none", "points 1;swing 0 0;", 4, 17);
        bad("5: a LINE that there is already", "points 2;line 0 1;line 0 1;", 5, 25);
        bad("5: the other way", "points 2;line 0 1;line 1 0;", 5, 25);
        bad("5: of swing, there is none", "points 3;line 0 1;swing 1 2;", 5, 26);
        good("5: another LINE", "points 3;line 0 1;line 0 2;", 6, 1, 1);
        good("5: of swing, there is one", "points 3;line 0 1;line 1 2;swing 1 2;", 4, 4, 3);
        good("5: of swing, the other way", "points 3;line 0 1;line 1 2;swing 2 1;", 4, 4, 3);
        good("5: a LINE that turning took", "points 3;line 0 1;line 0 2;line 1 2;turn 0;line 2 1;", 6, 5, 3);
        bad("5: a LINE that turning brought", "points 3;line 0 1;line 0 2;turn 0;line 2 1;", 5, 41);
    }

    private static void moreThanSeven() {
        for (int points = 0; points <= 7; points++) {
            String text = Bounds.apart(points);
            for (int more = 0; more <= 9; more++) {
                if (points + more <= 7) {
                    good("5: up to 7 POINTS", text + "points " + more + ";", new int[points + more]);
                } else {
                    bad("5: more than 7 POINTS", text + "points " + more + ";", 6, 16);
                }
            }
            for (int more = 1; more <= 8; more++) {
                String letters = "abcdefgh".substring(0, more);
                if (points + more <= 7) {
                    good("5: up to 7 POINTS by cross", text + "cross " + letters.repeat(2) + ";", joined(points, more));
                } else {
                    bad("5: more than 7 POINTS by cross", text + "cross " + letters.repeat(2) + ";", 6, 15);
                    bad("5: of no WORD, too, the least kind", text + "cross " + letters + ";", 6, 15);
                }
            }
        }
        bad("5: one unlike letter, though not a", "points 6;cross bb;", 7, 15);
        bad("5: two unlike letters, though not a", "points 5;cross bcbc;", 7, 15);
        bad("5: two unlike letters, one too many", "points 6;cross bcbc;", 6, 15);
        bad("5: 26 unlike letters", "cross abcdefghijklmnopqrstuvwxyz;", 6, 6);
    }

    private static int[] joined(int apart, int more) {
        int[] near = new int[apart + more];
        for (int p = apart; p < near.length; p++) {
            near[p] = ((1 << more) - 1 << apart) - (1 << p);
        }
        return near;
    }

    private static void noSuchWord() {
        bad("5: 13 letters", "cross abcdefgabcdef;", 7, 6);
        good("5: 14 letters", "cross abcdefgabcdefg;", joined(0, 7));
        bad("5: 15 letters", "cross abcdefgabcdefga;", 7, 6);
        bad("5: 16 letters", "cross abcdefgabcdefgab;", 7, 6);
        bad("5: 15 letters of few unlike ones", "cross abababababababa;", 7, 6);
        bad("5: once", "cross a;", 7, 6);
        good("5: just twice", "cross aa;", 0);
        bad("5: three times", "cross aaa;", 7, 6);
        bad("5: once and three times", "cross abbb;", 7, 6);
        bad("5: four times", "cross aaaa;", 7, 6);
        bad("5: a letter beyond its unlike ones", "cross bb;", 7, 6);
        bad("5: the second left out", "cross acac;", 7, 6);
        bad("5: the last one beyond", "cross abcdefhabcdefh;", 7, 6);
        bad("5: the last letter there is", "cross zz;", 7, 6);
        good("5: a need not be the first", "cross baba;", 2, 1);
        good("4: fewer letters behind more", "cross acbcab;cross abab;", 2, 5, 2, 16, 8);
        good("4: the fewest behind the most", "cross bcdefabcdefa;cross aa;", 62, 61, 59, 55, 47, 31, 0);
    }

    private static void firstAlongTheText() {
        bad("5: the first of many", "turn 0;points 9;?", 3, 5);
        bad("5: behind good lines of it", "points 2;line 0 1;swing 0 1;turn 3;line 0 1;", 3, 33);
        bad("5: ahead of the end", "points 8", 6, 7);
        bad("5: ahead of a missing SIGN", "points 2;line 0 0 0;", 4, 16);
        bad("5: the first DIGIT ahead of the second", "points 2;line 2 22;", 3, 14);
        bad("5: a WORD ahead of what follows", "cross ab1ab;", 7, 6);
    }
}
