import java.util.function.Supplier;

/** All that can be seen of an object: what it answers, what it undoes, its images, what its text tells. */
final class Look {
    private static final int MOST_UNDONE = 10;

    private final StringBuilder seen = new StringBuilder();

    private Look() {}

    /** Each part is seen on an object of its own, made in the same way: some of the calls change it. */
    static String at(Supplier<TemperNurses> made) {
        Look look = new Look();
        look.atAnswers(made.get());
        look.atPlans(made.get());
        look.atPast(made.get());
        for (int image = 0; image <= 1; image++) {
            TemperNurses x = made.get();
            look.note("back(" + image + ")", x.back(image));
            look.atPast(x);
        }
        TemperNurses x = made.get();
        look.note("hill", x.hill());
        look.atAnswers(x);
        return look.seen.toString();
    }

    private void note(String call, long answer) {
        seen.append(call).append('=').append(answer).append(' ');
    }

    private void atAnswers(TemperNurses x) {
        for (int what = 0; what <= 4; what++) note("count" + what, x.count(what));
        for (int what = 0; what <= 4; what++) note("now" + what, x.now(what));
        for (int t = 0; t < 6; t++) {
            for (int what = 0; what <= 6; what++) note("temper" + t + what, x.temper(t, what));
        }
        for (int n = 0; n < 4; n++) {
            for (int what = 0; what <= 4; what++) note("nurse" + n + what, x.nurse(n, what));
        }
        note("whose", x.whose());
        note("ask", x.ask());
        note("trace", x.trace());
    }

    private void atPlans(TemperNurses x) {
        for (int t = -1; t < 6; t++) {
            note("plan" + t, x.plan(t));
            note("beds" + t, x.beds(40, t));
            note("best" + t, x.best(t, 1));
            note("hot" + t, x.hot(t, 7));
            for (int n = 0; n < 4; n++) note("when" + t + n, x.when(t, n));
        }
        for (int what = 0; what <= 1; what++) note("odds" + what, x.odds(3, 2, what));
    }

    private void atPast(TemperNurses x) {
        for (int i = 0; i <= MOST_UNDONE; i++) {
            note("year", x.now(0));
            note("whose", x.whose());
            for (int t = 0; t < 6; t++) {
                note("heat" + t, x.temper(t, 0));
                note("place" + t, x.temper(t, 3));
                note("owner" + t, x.temper(t, 4));
            }
            note("undo", x.undo());
        }
    }
}
