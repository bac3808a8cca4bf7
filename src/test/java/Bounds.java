import java.util.List;
import java.util.function.Supplier;
import java.util.function.ToLongFunction;

/**
 * Cases at the document's bounds. Each asks one call of an object made anew, and looks at the answer, at the STATUS
 * behind it, which was another one before, and at what must be as it was: an object made alike, not asked, tells it.
 */
final class Bounds {
    static final int LOW = Integer.MIN_VALUE;
    static final int HIGH = Integer.MAX_VALUE;
    static final String PATH = "points 4;line 0 1;line 1 2;line 2 3;";
    static final String RING = "points 5;line 0 1;line 1 2;line 2 3;line 3 4;line 0 4;";
    static final String WHEEL = RING + "points 1;line 0 5;line 1 5;line 2 5;line 3 5;line 4 5;";
    static final String SEVEN = "cross abcdefgabcdefg;";
    static final String APART = "points 7;";
    static final String ONE_OFF = "cross abab;points 1;";

    /** A call with one number. */
    interface Numbered {
        long ask(ChordWords x, int number);
    }

    private final Check check;

    Bounds(String test) {
        check = new Check(test);
    }

    void end() {
        check.end();
    }

    /** A text's network, with all that a call could spoil: two acts, two images, a fault told, and a tape. */
    static ChordWords of(String text) {
        return of(text, "cross abab;turn 0;");
    }

    static ChordWords of(String text, String tape) {
        ChordWords x = new ChordWords();
        Check.load(x, "points 2;line 0 1;");
        x.image(1);
        if (Check.load(x, text) < 0) {
            throw new IllegalStateException("the test's text has a fault: " + text);
        }
        x.image(2);
        Check.load(x, "points 1;turn 1;");
        fill(x, tape);
        return x;
    }

    static Supplier<ChordWords> made(String text) {
        return () -> of(text);
    }

    static Supplier<ChordWords> made(String text, String tape) {
        return () -> of(text, tape);
    }

    /** A text on the tape, with blanks up to the next twenty bytes. */
    static void fill(ChordWords x, String text) {
        Check.feed(x, text + " ".repeat((20 - text.length() % 20) % 20));
    }

    static String joined(int points) {
        return points == 0 ? "" : "cross " + "abcdefg".substring(0, points).repeat(2) + ";";
    }

    static String apart(int points) {
        return "points " + points + ";";
    }

    /** A boolean answer as a number, false as NONE. */
    static long told(boolean answer) {
        return answer ? 1 : ChordWords.NONE;
    }

    void due(String sentence, long got, long want) {
        check.due("promise " + sentence, got, want);
    }

    void due(String sentence, ChordWords x, long got, long want, int status) {
        check.due("promise " + sentence, x, got, want, status);
    }

    void same(String sentence, List<Long> is, List<Long> was) {
        for (int i = 0; i < was.size(); i++) {
            check.due("promise " + sentence + ", what must be as it was, " + i, is.get(i), was.get(i));
        }
    }

    /** NONE or false, the STATUS, and nothing else has changed. */
    void refused(String sentence, int status, Supplier<ChordWords> made, ToLongFunction<ChordWords> call) {
        ChordWords x = made.get();
        x.many(0);
        due(sentence + ": STATUS ahead", x.status(), 0);
        due(sentence, x, call.applyAsLong(x), ChordWords.NONE, status);
        same(sentence, State.whole(x), State.whole(made.get()));
    }

    void refusedAll(String sentence, int status, Supplier<ChordWords> made, Numbered call, int... numbers) {
        for (int n : numbers) {
            refused(sentence + ", " + n, status, made, x -> call.ask(x, n));
        }
    }

    /** An answer with STATUS 0 that changes nothing else. */
    void answered(String sentence, long want, Supplier<ChordWords> made, ToLongFunction<ChordWords> call) {
        ChordWords x = made.get();
        x.near(-1);
        due(sentence, x, call.applyAsLong(x), want, 0);
        same(sentence, State.whole(x), State.whole(made.get()));
    }

    /** Answers for the numbers from the first on. */
    void answeredFrom(String sentence, int first, Supplier<ChordWords> made, Numbered call, long... want) {
        for (int i = 0; i < want.length; i++) {
            int n = first + i;
            answered(sentence + ", " + n, want[i], made, x -> call.ask(x, n));
        }
    }

    /** An answer with STATUS 0 behind which the tape is empty, and all else is as it was. */
    void emptied(String sentence, long want, Supplier<ChordWords> made, ToLongFunction<ChordWords> call) {
        ChordWords x = made.get();
        x.near(-1);
        due(sentence, x, call.applyAsLong(x), want, 0);
        ChordWords left = made.get();
        same(sentence, State.faults(x), State.faults(left));
        same(sentence, State.past(x), State.past(left));
        same(sentence + ", an empty tape", State.tape(x), State.tape(new ChordWords()));
    }

    /** An act: its answer, STATUS 0, who is near each point then; undone, all is as it was. */
    void acted(String sentence, long want, Supplier<ChordWords> made, ToLongFunction<ChordWords> call, int... near) {
        ChordWords x = made.get();
        int acts = x.many(3);
        x.near(-1);
        due(sentence, x, call.applyAsLong(x), want, 0);
        network(sentence, x, near);
        due(sentence + ": an act more", x.many(3), acts + 1);
        due(sentence + ": undone", x, x.undo(), acts, 0);
        same(sentence, State.whole(x), State.whole(made.get()));
    }

    void network(String sentence, ChordWords x, int... near) {
        due(sentence + ": points then", x.many(0), near.length);
        for (int p = 0; p < near.length; p++) {
            due(sentence + ": near " + p + " then", x.near(p), near[p]);
        }
    }
}
