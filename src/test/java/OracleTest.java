import java.util.Random;

/** Long runs of drawn calls: the class and the Oracle must answer alike, each with the same STATUS. */
public final class OracleTest {
    private static final int RUNS = 3000;
    private static final int CALLS = 120;
    private static final Check CHECK = new Check("OracleTest");

    private final Random random;
    private final int run;
    private final ChordWords x = new ChordWords();
    private final Told told = new Told();

    private OracleTest(int run) {
        this.run = run;
        this.random = new Random(run);
    }

    public static void main(String[] args) {
        int runs = args.length > 0 ? Integer.parseInt(args[0]) : RUNS;
        for (int run = 0; run < runs && CHECK.wrong() < 20; run++) {
            new OracleTest(run).play();
        }
        CHECK.end();
    }

    private void play() {
        for (int call = 0; call < CALLS && CHECK.wrong() < 20; call++) {
            if (random.nextInt(3) == 0) {
                act();
            } else {
                ask();
            }
            CHECK.due("run " + run + ": status()", x.status(), told.status);
        }
    }

    private void due(String call, long got, long want) {
        CHECK.due("run " + run + ": " + call, got, want);
    }

    private int upTo(int most) {
        return random.nextInt(most + 1);
    }

    /** Mostly a number that can be; at times one too low, too high, or far off. */
    private int number(int least, int most) {
        switch (upTo(24)) {
            case 0:
                return least - 1;
            case 1:
                return most + 1;
            case 2:
                return random.nextInt();
            default:
                return most < least ? least : least + upTo(most - least);
        }
    }

    private int point() {
        return number(0, told.points() - 1);
    }

    private int set() {
        return number(0, (1 << told.points()) - 1);
    }

    /** The Oracle takes its time over words of seven points with few lines. */
    private boolean slow() {
        return told.points() == 7 && told.lines() < 6 || told.points() == 6 && told.lines() < 2;
    }

    private void act() {
        int a = point();
        int b = point();
        switch (upTo(11)) {
            case 0:
            case 1:
            case 2:
                int set = set() | (upTo(2) == 0 ? 0 : set());
                due("add(" + set + ")", x.add(set), told.add(set));
                return;
            case 3:
                due("drop(" + a + ")", x.drop(a), told.drop(a));
                return;
            case 4:
            case 5:
                due("flip(" + a + ", " + b + ")", x.flip(a, b), told.flip(a, b));
                return;
            case 6:
                due("turn(" + a + ")", x.turn(a), told.turn(a));
                return;
            case 7:
                due("swing(" + a + ", " + b + ")", x.swing(a, b), told.swing(a, b));
                return;
            case 8:
                due("rename(" + a + ", " + b + ")", x.rename(a, b) ? 1 : 0, told.rename(a, b) ? 1 : 0);
                return;
            case 9:
                due("undo()", x.undo(), told.undo());
                return;
            case 10:
                int seed = number(0, 9999);
                int n = number(0, 7);
                due("shuffle(" + seed + ", " + n + ")", x.shuffle(seed, n), told.shuffle(seed, n));
                return;
            default:
                text();
        }
    }

    private void text() {
        String text = drawnText();
        feed(text);
        int n = upTo(9) == 0 ? number(0, 200) : text.length();
        due("load(" + n + ") of " + text, x.load(n), told.load(n));
        for (int what = -1; what < 3; what++) {
            due("fault(" + what + ") of " + text, x.fault(what), told.fault(what));
        }
    }

    private void feed(String text) {
        for (int from = 0; from < text.length(); from += 20) {
            int[] four = new int[5];
            for (int i = 0; i < 5; i++) {
                four[i] = Check.four(text, from + 4 * i);
            }
            due("feed(" + text.substring(from) + ")", x.feed(four[0], four[1], four[2], four[3], four[4]),
                    told.feed(four));
        }
    }

    private String drawnText() {
        StringBuilder text = new StringBuilder();
        for (int line = upTo(9); line > 0; line--) {
            switch (upTo(5)) {
                case 0:
                    text.append("points ").append(upTo(4)).append(';');
                    break;
                case 1:
                    text.append("cross").append(blank()).append(drawnWord()).append(';');
                    break;
                case 2:
                    text.append("turn ").append(upTo(6)).append(blank()).append(';').append(blank());
                    break;
                case 3:
                    text.append("swing ").append(upTo(5)).append(' ').append(upTo(5)).append(';');
                    break;
                default:
                    text.append("line").append(blank()).append(upTo(5)).append(' ').append(upTo(5)).append(';');
                    break;
            }
        }
        if (upTo(3) == 0 && text.length() > 0) {
            String signs = "; \n0123abcxyzP\t\0\u00ff";
            text.setCharAt(upTo(text.length() - 1), signs.charAt(upTo(signs.length() - 1)));
        }
        return text.toString();
    }

    private String blank() {
        return new String[] {"", " ", "\n", "  \n"}[upTo(3)].concat(upTo(30) == 0 ? "" : " ");
    }

    private String drawnWord() {
        StringBuilder word = new StringBuilder();
        for (int letter = upTo(upTo(20) == 0 ? 8 : 3); letter >= 0; letter--) {
            for (int i = 0; i < 2; i++) {
                word.insert(upTo(word.length()), (char) ('a' + letter));
            }
        }
        if (upTo(10) == 0) {
            word.setCharAt(upTo(word.length() - 1), (char) ('a' + upTo(5)));
        }
        return word.toString();
    }

    private void ask() {
        int kind = upTo(27);
        if (kind < 12) {
            askWords(kind);
        } else if (kind < 22) {
            askSplits(kind);
        } else {
            askRest(kind);
        }
    }

    private void askWords(int kind) {
        if (slow()) {
            return;
        }
        int models = told.many(6);
        due("many(6)", x.many(6), models);
        int i = number(0, models - 1);
        int p = point();
        int q = point();
        int set = set();
        switch (kind) {
            case 0:
                int place = number(0, 2 * told.points() - 1);
                due("letter(" + i + ", " + place + ")", x.letter(i, place), told.letter(i, place));
                return;
            case 1:
                due("span(" + i + ", " + p + ")", x.span(i, p), told.span(i, p));
                return;
            case 2:
                int what = number(0, 1);
                due("mean(" + i + ", " + what + ")", x.mean(i, what), told.mean(i, what));
                return;
            case 3:
                findOne(i);
                return;
            case 4:
                crossOne();
                return;
            case 5:
                due("fits(" + i + ", " + set + ")", x.fits(i, set), told.fits(i, set));
                return;
            case 6:
                int couples = told.fits(i, set);
                int j = number(0, couples - 1);
                int end = number(0, 1);
                due("gap(" + i + ", " + set + ", " + j + ", " + end + ")", x.gap(i, set, j, end),
                        told.gap(i, set, j, end));
                return;
            case 7:
                due("could(" + set + ")", x.could(set), told.could(set));
                return;
            case 8:
                due("beside(" + p + ", " + q + ")", x.beside(p, q), told.beside(p, q));
                return;
            case 9:
            case 10:
                due("turned(" + i + ", " + p + ")", x.turned(i, p), told.turned(i, p));
                return;
            default:
                due("obstruction()", x.obstruction(), told.obstruction());
                CHECK.due("status", x.status(), told.status);
                due("obstructions()", x.obstructions(), told.obstructions());
        }
    }

    private void findOne(int i) {
        StringBuilder word = new StringBuilder();
        for (int place = 0; place < 2 * told.points(); place++) {
            int letter = told.letter(i, place);
            word.append((char) ('a' + (letter < 0 ? upTo(6) : letter)));
        }
        String text = word.toString();
        text = Oracle.readings(text).get(upTo(2 * text.length()));
        if (upTo(4) == 0 && text.length() > 0) {
            char[] letters = text.toCharArray();
            letters[upTo(letters.length - 1)] = (char) ('`' + upTo(9));
            text = new String(letters);
        }
        if (upTo(2) > 0) {
            due("load(0)", x.load(0), told.load(0));
            due("undo()", x.undo(), told.undo());
        }
        feed(text);
        int n = upTo(9) == 0 ? number(0, text.length() + 3) : text.length();
        due("find(" + n + ") of " + text, x.find(n), told.find(n));
    }

    private void crossOne() {
        String text = drawnWord();
        feed(text);
        int n = upTo(9) == 0 ? number(0, 200) : text.length();
        int a = number(0, 3);
        int b = upTo(5) == 0 ? number(0, 25) : number(0, 3);
        due("cross(" + n + ", " + a + ", " + b + ") of " + text, x.cross(n, a, b), told.cross(n, a, b));
    }

    private void askSplits(int kind) {
        int i = number(0, 6);
        int k = number(0, 6);
        switch (kind) {
            case 12:
                int set = set();
                due("order(" + set + ")", x.order(set), told.order(set));
                return;
            case 13:
                due("split(" + i + ")", x.split(i), told.split(i));
                return;
            case 14:
                due("strong(" + i + ")", x.strong(i), told.strong(i));
                return;
            case 15:
                due("prime()", x.prime(), told.prime());
                return;
            case 16:
                k = number(0, 2);
                due("piece(" + i + ", " + k + ")", x.piece(i, k), told.piece(i, k));
                return;
            case 17:
                due("knot(" + i + ", " + k + ")", x.knot(i, k), told.knot(i, k));
                return;
            case 18:
                due("ties(" + i + ", " + k + ")", x.ties(i, k), told.ties(i, k));
                return;
            case 19:
                due("plain()", x.plain(), told.plain());
                return;
            case 20:
                int what = number(0, 3);
                due("twins(" + what + ")", x.twins(what), told.twins(what));
                return;
            default:
                what = number(0, 1);
                due("most(" + what + ")", x.most(what), told.most(what));
        }
    }

    private void askRest(int kind) {
        int what = number(0, 3);
        int k = number(0, 2);
        switch (kind) {
            case 22:
                due("colours()", x.colours(), told.colours());
                int colours = number(0, 9);
                due("paintings(" + colours + ")", x.paintings(colours), told.paintings(colours));
                return;
            case 23:
                due("family(" + what + ")", x.family(what), told.family(what));
                return;
            case 24:
                due("image(" + k + ")", x.image(k) ? 1 : 0, told.image(k) ? 1 : 0);
                return;
            case 25:
                due("turns(" + k + ")", x.turns(k), told.turns(k));
                CHECK.due("status", x.status(), told.status);
                due("within(" + k + ")", x.within(k), told.within(k));
                CHECK.due("status", x.status(), told.status);
                due("like(" + k + ")", x.like(k), told.like(k));
                return;
            case 26:
                int seed = number(0, 9999);
                int n = number(0, 7);
                int m = number(1, 40);
                due("sample(" + seed + ", " + n + ", " + m + ", " + what + ")", x.sample(seed, n, m, what),
                        told.sample(seed, n, m, what));
                return;
            default:
                int count = number(0, 7);
                if (count != 6 || !slow()) {
                    due("many(" + count + ")", x.many(count), told.many(count));
                }
                int p = point();
                due("near(" + p + ")", x.near(p), told.near(p));
        }
    }
}
