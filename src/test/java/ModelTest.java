import java.util.Random;

/** Long random runs of all calls, right and wrong ones, each held against Model. */
public final class ModelTest {
    private static final Check CHECK = new Check("ModelTest");
    private static final int RUNS = 400, CALLS = 512;
    private static final int[] WILD = {Integer.MIN_VALUE, Integer.MAX_VALUE, -1000000, -9, -2, 100, 199, 256};

    private final Random random;
    private final TemperNurses x = new TemperNurses();
    private final Model model = new Model();
    private final String run;
    private int calls;

    private ModelTest(int seed) {
        random = new Random(seed);
        run = "run " + seed + ": ";
    }

    public static void main(String[] args) {
        for (int seed = 0; seed < RUNS; seed++) new ModelTest(seed).go();
        CHECK.end();
    }

    private void go() {
        if (random.nextInt(20) != 0) tell(rightText(random.nextInt(7), random.nextInt(5)));
        while (calls < CALLS) {
            int dice = random.nextInt(150);
            if (dice == 0) tell(rightText(random.nextInt(7), random.nextInt(5)));
            else if (dice == 1) tell(spoilt(rightText(random.nextInt(8), random.nextInt(6))));
            else if (dice == 2) tell(noise());
            else call(random.nextInt(28));
        }
    }

    private void due(String call, long got, long want) {
        calls++;
        CHECK.due(run + call, got, want);
    }

    private void tell(String text) {
        if (random.nextInt(10) != 0) due("clear()", x.clear(), model.clear());
        for (int i = 0; i < text.length(); i++) {
            int c = text.charAt(i);
            due("type(" + c + ")", x.type(c), model.type(c));
        }
        due("hill() of " + text, x.hill(), model.hill());
    }

    private String rightText(int tempers, int nurses) {
        StringBuilder text = new StringBuilder();
        boolean mild = random.nextBoolean();
        for (int t = 0; t < tempers; t++) {
            item(text, 't', 1 + random.nextInt(mild ? 12 : 60), random.nextInt(mild ? 3 : 6), random.nextInt(41));
        }
        for (int n = 0; n < nurses; n++) {
            item(text, 'n', 1 + random.nextInt(9), 1 + random.nextInt(3), 1 + random.nextInt(mild ? 20 : 99));
        }
        int clashes = tempers < 2 ? 0 : random.nextInt(6);
        for (int i = 0; i < clashes; i++) {
            int a = random.nextInt(tempers);
            item(text, 'x', a, (a + 1 + random.nextInt(tempers - 1)) % tempers);
        }
        return text.toString();
    }

    private void item(StringBuilder text, char letter, int... numbers) {
        text.append(letter);
        for (int i = 0; i < numbers.length; i++) {
            if (i > 0 || random.nextInt(20) == 0) text.append(' ');
            text.append(numbers[i]);
        }
        if (random.nextInt(20) == 0) text.append(' ');
        text.append(';');
    }

    private String spoilt(String text) {
        StringBuilder spoilt = new StringBuilder(text);
        for (int i = random.nextInt(3); i >= 0; i--) {
            int at = random.nextInt(spoilt.length() + 1);
            if (random.nextBoolean() && at < spoilt.length()) spoilt.deleteCharAt(at);
            else spoilt.insert(at, sign());
        }
        return spoilt.toString();
    }

    private String noise() {
        StringBuilder text = new StringBuilder();
        for (int i = random.nextInt(12); i > 0; i--) text.append(sign());
        return text.toString();
    }

    private char sign() {
        String signs = "tnxaz 0123456789;;T-\n{`/:";
        int at = random.nextInt(signs.length() + 1);
        return at < signs.length() ? signs.charAt(at) : (char) random.nextInt(256);
    }

    /** A number that is mostly right, sometimes just beside that, sometimes far from it. */
    private int number(int least, int most) {
        int dice = random.nextInt(100);
        if (dice == 0) return WILD[random.nextInt(WILD.length)];
        if (dice == 1) return least - 1;
        if (dice == 2) return most + 1;
        return least + random.nextInt(most - least + 1);
    }

    private int aTemper() {
        return number(0, random.nextInt(4) == 0 ? 5 : Math.max(0, model.count(0) - 1));
    }

    private int aNurse() {
        return number(0, random.nextInt(4) == 0 ? 3 : Math.max(0, model.count(1) - 1));
    }

    private void call(int which) {
        int t = aTemper(), u = aTemper(), n = aNurse();
        switch (which) {
            case 0, 1, 2, 3 -> due("sends(" + t + ", " + n + ")", x.sends(t, n), model.sends(t, n));
            case 4 -> due("fetches(" + t + ")", x.fetches(t), model.fetches(t));
            case 5, 6 -> due("visits(" + t + ")", x.visits(t), model.visits(t));
            case 7 -> due("mixes(" + t + ", " + u + ")", x.mixes(t, u), model.mixes(t, u));
            case 8 -> {
                int years = random.nextInt(3) == 0 ? number(1, 9) : 1;
                due("years(" + years + ")", x.years(years), model.years(years));
            }
            case 9 -> due("undo()", x.undo(), model.undo());
            default -> ask(which, t, n);
        }
    }

    private void ask(int which, int t, int n) {
        int any = random.nextInt(4) == 0 ? -1 : t;
        int a = number(0, which == 10 ? 6 : 4);
        int years = number(0, 99);
        switch (which) {
            case 10, 11 -> due("temper(" + t + ", " + a + ")", x.temper(t, a), model.temper(t, a));
            case 12, 13 -> due("nurse(" + n + ", " + a + ")", x.nurse(n, a), model.nurse(n, a));
            case 14, 15 -> due("now(" + a + ")", x.now(a), model.now(a));
            case 16 -> due("when(" + t + ", " + n + ")", x.when(t, n), model.when(t, n));
            case 17 -> due("hot(" + t + ", " + years + ")", x.hot(t, years), model.hot(t, years));
            case 18 -> due("plan(" + any + ")", x.plan(any), model.plan(any));
            case 19 -> {
                int what = number(0, 1);
                due("best(" + t + ", " + what + ")", x.best(t, what), model.best(t, what));
            }
            case 20 -> {
                int limit = random.nextBoolean() ? number(0, 198) : number(0, 30);
                if (random.nextInt(5) != 0) return;
                due("beds(" + limit + ", " + any + ")", x.beds(limit, any), model.beds(limit, any));
            }
            case 21 -> {
                int loose = number(0, 10), k = number(0, 6), what = number(0, 1);
                due("odds(" + loose + ", " + k + ", " + what + ")", x.odds(loose, k, what), model.odds(loose, k, what));
            }
            default -> listenOrKeep(which, t, a);
        }
    }

    private void listenOrKeep(int which, int t, int a) {
        int bit = number(0, 1);
        switch (which) {
            case 22 -> {
                int b = random.nextBoolean() ? number(0, 99) : number(0, 15);
                due("hears(" + b + ", " + bit + ")", x.hears(b, bit), model.hears(b, bit));
                if (random.nextInt(4) == 0) due("forget()", x.forget(), model.forget());
            }
            case 23 -> due("whose()", x.whose(), model.whose());
            case 24 -> due("ask()", x.ask(), model.ask());
            case 25 -> {
                int kind = number(0, 5);
                due("mark(" + kind + ", " + t + ")", x.mark(kind, t), model.mark(kind, t));
                due("trace()", x.trace(), model.trace());
            }
            case 26 -> {
                if (random.nextBoolean()) due("keep(" + bit + ")", x.keep(bit), model.keep(bit));
                else due("back(" + bit + ")", x.back(bit), model.back(bit));
            }
            default -> due("count(" + a + ")", x.count(a), model.count(a));
        }
    }
}
