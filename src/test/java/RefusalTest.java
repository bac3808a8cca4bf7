import java.util.LinkedHashMap;
import java.util.List;
import java.util.Map;
import java.util.function.ToLongFunction;

/** A call with another STATUS than 0 answers NONE or false, and changes nothing else. */
public final class RefusalTest {
    private static final Check CHECK = new Check("RefusalTest");
    private static final int[] FAR = {-1, Integer.MIN_VALUE, 128, Integer.MAX_VALUE};
    private static final int FIRST = 0;
    private static final int APART = 1;
    private static final int WHEEL = 2;

    private final Map<String, ToLongFunction<ChordWords>> calls = new LinkedHashMap<>();
    private final Map<String, Integer> due = new LinkedHashMap<>();

    public static void main(String[] args) {
        for (int state = FIRST; state <= WHEEL; state++) {
            RefusalTest test = new RefusalTest();
            test.wrongNumbers();
            if (state == FIRST) {
                test.ofPath();
            } else if (state == APART) {
                test.ofApart();
            } else {
                test.ofWheel();
            }
            for (String call : test.calls.keySet()) {
                test.tryOne(call, state);
            }
        }
        loadWithFault();
        CHECK.end();
    }

    /** Each with acts behind it, one image, a fault told, and fifteen good bytes on the tape. */
    private static ChordWords make(int state) {
        ChordWords x = new ChordWords();
        Check.load(x, "points 2;line 0 1;");
        x.image(0);
        Check.load(x, "points 2;line 0 2;");
        if (state == FIRST) {
            Check.load(x, "points 4;line 0 1;line 1 2;line 2 3;");
        } else if (state == APART) {
            Check.load(x, "cross abab;points 5;");
            x.turn(0);
        } else {
            Check.load(x, "points 5;line 0 1;line 1 2;line 2 3;line 3 4;line 0 4;");
            x.add(31);
        }
        Check.load(x, "points 1;line 0 1;");
        Check.feed(x, "ababccc;?points 1");
        return x;
    }

    private void call(String name, int status, ToLongFunction<ChordWords> call) {
        calls.put(name, call);
        due.put(name, status);
    }

    private static int no(boolean answer) {
        return answer ? 1 : -1;
    }

    private void wrongNumbers() {
        for (int n : FAR) {
            call("load " + n, 1, x -> x.load(n));
            call("many " + n, 1, x -> x.many(n));
            call("near " + n, 2, x -> x.near(n));
            call("add " + n, 1, x -> x.add(n));
            call("drop " + n, 2, x -> x.drop(n));
            call("flip a " + n, 2, x -> x.flip(n, 0));
            call("flip b " + n, 2, x -> x.flip(0, n));
            call("turn " + n, 2, x -> x.turn(n));
            call("swing a " + n, 2, x -> x.swing(n, 1));
            call("swing b " + n, 2, x -> x.swing(1, n));
            call("rename a " + n, 2, x -> no(x.rename(n, 1)));
            call("rename b " + n, 2, x -> no(x.rename(1, n)));
            call("image " + n, 1, x -> no(x.image(n)));
            call("like " + n, 1, x -> x.like(n));
            call("order " + n, 1, x -> x.order(n));
            call("piece what " + n, 1, x -> x.piece(0, n));
            call("twins " + n, 1, x -> x.twins(n));
            call("most " + n, 1, x -> x.most(n));
            call("paintings " + n, 1, x -> x.paintings(n));
            call("span " + n, 2, x -> x.span(0, n));
            call("mean what " + n, 1, x -> x.mean(0, n));
            call("find " + n, 1, x -> x.find(n));
            call("cross n " + n, 1, x -> x.cross(n, 0, 1));
            call("cross a " + n, 1, x -> x.cross(4, n, 1));
            call("cross b " + n, 1, x -> x.cross(4, 0, n));
            call("fits " + n, 1, x -> x.fits(0, n));
            call("gap set " + n, 1, x -> x.gap(0, n, 0, 0));
            call("gap what " + n, 1, x -> x.gap(0, 0, 0, n));
            call("could " + n, 1, x -> x.could(n));
            call("beside a " + n, 2, x -> x.beside(n, 1));
            call("beside b " + n, 2, x -> x.beside(1, n));
            call("turned " + n, 2, x -> x.turned(0, n));
            call("family " + n, 1, x -> x.family(n));
            call("turns " + n, 1, x -> x.turns(n));
            call("within " + n, 1, x -> x.within(n));
            call("shuffle seed " + n, 1, x -> x.shuffle(n == 128 ? 10000 : n, 3));
            call("shuffle n " + n, 1, x -> x.shuffle(3, n));
            call("sample n " + n, 1, x -> x.sample(3, n, 3, 0));
            call("sample m " + n, 1, x -> x.sample(3, 3, n, 0));
            call("sample what " + n, 1, x -> x.sample(3, 3, 3, n));
            below(n);
        }
        call("sample seed", 1, x -> x.sample(10000, 3, 3, 0));
        call("flip one", 4, x -> x.flip(1, 1));
        call("swing one", 4, x -> x.swing(1, 1));
        call("rename one", 4, x -> no(x.rename(1, 1)));
        call("beside one", 4, x -> x.beside(1, 1));
        call("cross one", 4, x -> x.cross(4, 1, 1));
        call("cross none there", 2, x -> x.cross(4, 0, 3));
        call("cross three times", 2, x -> x.cross(7, 0, 2));
        call("cross once", 2, x -> x.cross(3, 0, 1));
        call("like no image", 8, x -> x.like(1));
        call("turns no image", 8, x -> x.turns(1));
        call("within no image", 8, x -> x.within(2));
        call("turns other points", 7, x -> x.turns(0));
        call("find none", 6, x -> x.find(7));
        call("find none of no letters", 6, x -> x.find(0));
    }

    private void below(int n) {
        boolean low = n < 0;
        call("piece " + n, low ? 1 : 6, x -> x.piece(n, 0));
        call("knot " + n, low ? 1 : 6, x -> x.knot(n, 0));
        call("knot k " + n, low ? 1 : 6, x -> x.knot(0, n));
        call("ties " + n, low ? 1 : 6, x -> x.ties(n, 0));
        call("ties k " + n, low ? 1 : 6, x -> x.ties(0, n));
        call("letter " + n, low ? 1 : 6, x -> x.letter(0, n));
        call("letters of " + n, low ? 1 : 6, x -> x.letter(n == 128 ? 99999 : n, 0));
        call("span of " + n, low ? 1 : 6, x -> x.span(n == 128 ? 99999 : n, 0));
        call("mean of " + n, low ? 1 : 6, x -> x.mean(n == 128 ? 99999 : n, 0));
        call("fits in " + n, low ? 1 : 6, x -> x.fits(n == 128 ? 99999 : n, 0));
        call("gap in " + n, low ? 1 : 6, x -> x.gap(n == 128 ? 99999 : n, 0, 0, 0));
        call("gap j " + n, low ? 1 : 6, x -> x.gap(0, 0, n, 0));
        call("turned of " + n, low ? 1 : 6, x -> x.turned(n == 128 ? 99999 : n, 0));
    }

    private void splitsAre(int status) {
        call("split", status, x -> x.split(1));
        call("strong", status, x -> x.strong(1));
        call("split below", 1, x -> x.split(-1));
        call("strong below", 1, x -> x.strong(-1));
    }

    private void ofPath() {
        splitsAre(6);
        call("swing without a line", 5, x -> x.swing(0, 2));
        call("obstruction", 6, ChordWords::obstruction);
        call("obstructions", 6, ChordWords::obstructions);
    }

    private void ofApart() {
        splitsAre(7);
        call("add to seven", 3, x -> x.add(1));
        call("swing without a line", 5, x -> x.swing(1, 2));
        call("obstruction", 6, ChordWords::obstruction);
    }

    private void ofWheel() {
        splitsAre(6);
        call("letter without a model", 6, x -> x.letter(0, 0));
        call("span without a model", 6, x -> x.span(0, 0));
        call("mean without a model", 6, x -> x.mean(0, 0));
        call("fits without a model", 6, x -> x.fits(0, 0));
        call("gap without a model", 6, x -> x.gap(0, 0, 0, 0));
        call("turned without a model", 6, x -> x.turned(0, 0));
    }

    private void tryOne(String name, int state) {
        ChordWords asked = make(state);
        ChordWords left = make(state);
        asked.many(0);
        left.many(0);
        String told = "state " + state + ", " + name;
        CHECK.due(told, calls.get(name).applyAsLong(asked), -1);
        CHECK.due(told + " leaves the status", asked.status(), due.get(name));
        CHECK.due(told + ": the other's status", left.status(), 0);
        List<Long> is = State.whole(asked);
        List<Long> was = State.whole(left);
        for (int i = 0; i < was.size(); i++) {
            CHECK.due(told + " changes what is asked as " + i, is.get(i), was.get(i));
        }
    }

    private static void loadWithFault() {
        ChordWords x = make(FIRST);
        CHECK.due("load(9)", x, x.load(9), -1, 9);
        CHECK.due("the tape is empty then", x, x.load(1), -1, 1);
        CHECK.due("fault(0)", x.fault(0), 2);
        CHECK.due("fault(1)", x.fault(1), 0);
        CHECK.due("the network stays", State.network(x).equals(State.network(make(FIRST))), true);
        CHECK.due("the image stays", x.like(0), 0);
    }
}
