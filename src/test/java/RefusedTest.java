import java.util.ArrayList;
import java.util.LinkedHashSet;
import java.util.List;
import java.util.Set;
import java.util.function.Consumer;
import java.util.function.ToIntFunction;

/** "Refused, and nothing changes, the first of these: BAD, STATE, FULL", and "(Nothing is changed.)" of part 3. */
public final class RefusedTest {
    private static final Check CHECK = new Check("RefusedTest");
    private static final int BAD = -1, STATE = -2, FULL = -3, NO = -1000000;

    private final Worlds world;
    private final String before;

    private RefusedTest(Worlds world) {
        this.world = world;
        before = Look.at(world);
    }

    public static void main(String[] args) {
        for (Worlds world : Worlds.values()) {
            RefusedTest test = new RefusedTest(world);
            CHECK.sentence("Refused, and nothing changes: BAD, in " + world);
            test.badHill();
            test.badDone();
            test.badPlans();
            test.badBeds();
            test.badOdds();
            test.badKinds();
            CHECK.sentence("(Nothing is changed.), in " + world);
            test.questions();
        }
        stateOfNothing();
        stateOfBusy();
        stateOfBrim();
        fullOfBrim();
        badAheadOfOthers();
        faults();
        CHECK.end();
    }

    private void badHill() {
        for (int c : beside(0, 255)) refused("type(" + c + ")", x -> x.type(c), BAD);
        for (int t : besideTempers()) {
            for (int what = -1; what <= 7; what++) refused("temper", t, what, TemperNurses::temper, BAD);
        }
        for (int what : beside(0, 6)) refused("temper", 0, what, TemperNurses::temper, BAD);
        for (int n : besideNurses()) {
            for (int what = -1; what <= 5; what++) refused("nurse", n, what, TemperNurses::nurse, BAD);
        }
        for (int what : beside(0, 4)) refused("nurse", 0, what, TemperNurses::nurse, BAD);
    }

    private void badDone() {
        for (int t : besideTempers()) {
            for (int n = -1; n <= world.nurses; n++) refused("sends", t, n, TemperNurses::sends, BAD);
            refused("fetches(" + t + ")", x -> x.fetches(t), BAD);
            refused("visits(" + t + ")", x -> x.visits(t), BAD);
            for (int u = -1; u <= world.tempers; u++) {
                refused("mixes", t, u, TemperNurses::mixes, BAD);
                refused("mixes", u, t, TemperNurses::mixes, BAD);
            }
        }
        for (int t = 0; t < world.tempers; t++) {
            for (int n : besideNurses()) refused("sends", t, n, TemperNurses::sends, BAD);
            refused("mixes", t, t, TemperNurses::mixes, BAD);
        }
        for (int n : beside(1, 9)) refused("years(" + n + ")", x -> x.years(n), BAD);
        for (int what : beside(0, 4)) refused("now(" + what + ")", x -> x.now(what), BAD);
    }

    private void badPlans() {
        for (int t : besideTempers()) {
            for (int n = -1; n <= world.nurses; n++) refused("when", t, n, TemperNurses::when, BAD);
            for (int n : new int[] {-1, 0, 99, 100}) refused("hot", t, n, TemperNurses::hot, BAD);
            if (t != -1) refused("plan(" + t + ")", x -> x.plan(t), BAD);
            for (int what = -1; what <= 2; what++) refused("best", t, what, TemperNurses::best, NO);
        }
        for (int t = 0; t < world.tempers; t++) {
            for (int n : besideNurses()) refused("when", t, n, TemperNurses::when, BAD);
            for (int n : beside(0, 99)) refused("hot", t, n, TemperNurses::hot, BAD);
            for (int what : beside(0, 1)) refused("best", t, what, TemperNurses::best, NO);
        }
    }

    private void badBeds() {
        for (int limit : beside(0, 198)) {
            for (int t = -2; t <= world.tempers; t++) refused("beds", limit, t, TemperNurses::beds, BAD);
        }
        for (int t : besideTempers()) {
            if (t == -1) continue;
            refused("beds", 0, t, TemperNurses::beds, BAD);
            refused("beds", 198, t, TemperNurses::beds, BAD);
        }
    }

    private void badOdds() {
        for (int loose : beside(0, 10)) refused("odds(" + loose + ", 0, 0)", x -> x.odds(loose, 0, 0), BAD);
        for (int k : beside(0, 6)) refused("odds(0, " + k + ", 0)", x -> x.odds(0, k, 0), BAD);
        for (int what : beside(0, 1)) refused("odds(0, 0, " + what + ")", x -> x.odds(0, 0, what), BAD);
    }

    private void badKinds() {
        for (int b : beside(0, 99)) {
            for (int bangs = -1; bangs <= 2; bangs++) refused("hears", b, bangs, TemperNurses::hears, BAD);
        }
        for (int bangs : beside(0, 1)) refused("hears", 50, bangs, TemperNurses::hears, BAD);
        for (int t : besideTempers()) {
            for (int kind = -1; kind <= 6; kind++) refused("mark", kind, t, TemperNurses::mark, NO);
        }
        for (int kind : beside(0, 5)) refused("mark", kind, 0, TemperNurses::mark, NO);
        for (int image : beside(0, 1)) {
            refused("keep(" + image + ")", x -> x.keep(image), BAD);
            refused("back(" + image + ")", x -> x.back(image), BAD);
        }
        for (int what : beside(0, 4)) refused("count(" + what + ")", x -> x.count(what), BAD);
    }

    private void questions() {
        for (int i = -1; i <= 6; i++) {
            int t = i;
            for (int k = -1; k <= 7; k++) {
                int what = k;
                quiet("temper(" + t + ", " + what + ")", x -> x.temper(t, what));
                quiet("nurse(" + t + ", " + what + ")", x -> x.nurse(t, what));
                quiet("when(" + t + ", " + what + ")", x -> x.when(t, what));
                quiet("hot(" + t + ", " + 14 * what + ")", x -> x.hot(t, 14 * what));
                quiet("best(" + t + ", " + what + ")", x -> x.best(t, what));
                quiet("beds(" + 28 * what + ", " + t + ")", x -> x.beds(28 * what, t));
                quiet("odds(" + what + ", " + t + ", 0)", x -> x.odds(what, t, 0));
            }
            quiet("plan(" + t + ")", x -> x.plan(t));
            quiet("now(" + t + ")", x -> x.now(t));
            quiet("count(" + t + ")", x -> x.count(t));
        }
        quiet("whose()", TemperNurses::whose);
        quiet("ask()", TemperNurses::ask);
        quiet("trace()", TemperNurses::trace);
    }

    private static void stateOfNothing() {
        CHECK.sentence("Refused, and nothing changes: STATE, when there is nothing");
        for (Worlds world : new Worlds[] {Worlds.NEW, Worlds.TOLD}) {
            RefusedTest test = new RefusedTest(world);
            test.refused("undo()", TemperNurses::undo, STATE);
            test.refused("back(0)", x -> x.back(0), STATE);
            test.refused("back(1)", x -> x.back(1), STATE);
        }
        RefusedTest test = new RefusedTest(Worlds.TOLD);
        for (int i = 0; i < 2; i++) {
            int t = i;
            test.refused("fetches(" + t + ")", x -> x.fetches(t), STATE);
            test.refused("visits(" + t + ")", x -> x.visits(t), STATE);
        }
    }

    private static void stateOfBusy() {
        CHECK.sentence("Refused, and nothing changes: STATE");
        RefusedTest test = new RefusedTest(Worlds.BUSY);
        test.refused("sends(0, 0): is there", x -> x.sends(0, 0), STATE);
        test.refused("sends(3, 0): she does not hold it", x -> x.sends(3, 0), STATE);
        test.refused("sends(4, 0): no room", x -> x.sends(4, 0), STATE);
        test.refused("sends(4, 1): no room", x -> x.sends(4, 1), STATE);
        test.refused("sends(3, 2): she does not hold it", x -> x.sends(3, 2), STATE);
        test.refused("fetches(3): at home", x -> x.fetches(3), STATE);
        test.refused("fetches(4): at home", x -> x.fetches(4), STATE);
        test.refused("visits(3): at home", x -> x.visits(3), STATE);
        test.refused("visits(4): at home, broken", x -> x.visits(4), STATE);
        test.refused("back(0): none was kept", x -> x.back(0), STATE);
    }

    private static void stateOfBrim() {
        CHECK.sentence("Refused, and nothing changes: STATE, when all is full");
        RefusedTest test = new RefusedTest(Worlds.BRIM);
        test.refused("sends(3, 0): no room", x -> x.sends(3, 0), STATE);
        test.refused("sends(1, 0): no room, clashes", x -> x.sends(1, 0), STATE);
        test.refused("sends(5, 0): is there", x -> x.sends(5, 0), STATE);
        test.refused("sends(4, 1): is there, broken", x -> x.sends(4, 1), STATE);
        test.refused("sends(3, 2): she does not hold it", x -> x.sends(3, 2), STATE);
        test.refused("fetches(1): at home", x -> x.fetches(1), STATE);
        test.refused("visits(1): at home", x -> x.visits(1), STATE);
        test.refused("visits(4): broken", x -> x.visits(4), STATE);
        for (int n = 1; n <= 9; n++) {
            int years = n;
            test.refused("years(" + n + "): beyond 99", x -> x.years(years), STATE);
        }
    }

    private static void fullOfBrim() {
        CHECK.sentence("Refused, and nothing changes: FULL");
        RefusedTest test = new RefusedTest(Worlds.BRIM);
        for (int c : new int[] {0, ' ', ';', 't', 255}) test.refused("type(" + c + ")", x -> x.type(c), FULL);
        for (int b : new int[] {0, 50, 99}) {
            test.refused("hears", b, 0, TemperNurses::hears, FULL);
            test.refused("hears", b, 1, TemperNurses::hears, FULL);
        }
    }

    private static void badAheadOfOthers() {
        CHECK.sentence("the first of these: BAD ahead of STATE and FULL");
        RefusedTest test = new RefusedTest(Worlds.BRIM);
        test.refused("type(256)", x -> x.type(256), BAD);
        test.refused("type(-1)", x -> x.type(-1), BAD);
        test.refused("hears(100, 0)", x -> x.hears(100, 0), BAD);
        test.refused("hears(0, 2)", x -> x.hears(0, 2), BAD);
        test.refused("years(0)", x -> x.years(0), BAD);
        test.refused("years(10)", x -> x.years(10), BAD);
        test.refused("sends(3, 4)", x -> x.sends(3, 4), BAD);
        test.refused("sends(6, 0)", x -> x.sends(6, 0), BAD);
        RefusedTest other = new RefusedTest(Worlds.NEW);
        other.refused("back(2)", x -> x.back(2), BAD);
        other.refused("fetches(0)", x -> x.fetches(0), BAD);
        other.refused("visits(0)", x -> x.visits(0), BAD);
        other.refused("sends(0, 0)", x -> x.sends(0, 0), BAD);
    }

    private static void faults() {
        CHECK.sentence("-10 less FAULT: nothing changes");
        new RefusedTest(Worlds.NURSES).refused("hill()", TemperNurses::hill, -14);
        new RefusedTest(Worlds.BUSY).refused("hill()", TemperNurses::hill, -18);
        new RefusedTest(Worlds.BRIM).refused("hill()", TemperNurses::hill, -130);
    }

    private interface TwoNumbers {
        int answer(TemperNurses x, int a, int b);
    }

    private void refused(String name, int a, int b, TwoNumbers call, int due) {
        refused(name + "(" + a + ", " + b + ")", x -> call.answer(x, a, b), due);
    }

    private void refused(String name, ToIntFunction<TemperNurses> call, int due) {
        CHECK.due(name, call.applyAsInt(world.get()), due);
        quiet(name, x -> call.applyAsInt(x));
    }

    /** The call is made, and all is as it was before. */
    private void quiet(String name, Consumer<TemperNurses> call) {
        String behind = Look.at(() -> {
            TemperNurses x = world.get();
            call.accept(x);
            return x;
        });
        CHECK.same(name, behind, before);
    }

    /** Numbers that are not within these: those just beside them, and some far from them. */
    private static List<Integer> beside(int least, int most) {
        Set<Integer> numbers = new LinkedHashSet<>(List.of(least - 1, most + 1, Integer.MIN_VALUE, Integer.MIN_VALUE + 1,
            -1000000, -256, -32, -9, -3, -2, -1, 32, 33, 64, 256, 512, 1 << 16, Integer.MAX_VALUE - 1, Integer.MAX_VALUE));
        numbers.removeIf(number -> number >= least && number <= most);
        return new ArrayList<>(numbers);
    }

    private List<Integer> besideTempers() {
        return beside(0, world.tempers - 1);
    }

    private List<Integer> besideNurses() {
        return beside(0, world.nurses - 1);
    }
}
