/** Promises 24 to 28: mark, keep, back, count, trace. */
public final class KindsTest {
    private static final Check CHECK = new Check("KindsTest");

    public static void main(String[] args) {
        markAndTrace();
        markRefuses();
        images();
        imageKeepsWhatMayBeUndone();
        count();
        CHECK.end();
    }

    private static void markAndTrace() {
        TemperNurses x = Check.told("t1 0 0;t1 0 0;t1 0 0;t20 3 0;n9 3 99;");
        x.sends(0, 0);
        x.sends(1, 0);
        x.years(2);
        CHECK.due("trace at first", x.trace(), 0);
        int[] marks = {26, 29, 24, 58, 27, 28};
        long[] traces = {1, 11, 101, 1011, 10101, 100001};
        long trace = 0;
        for (int kind = 0; kind < 6; kind++) {
            CHECK.due("mark " + kind, x.mark(kind, 3), marks[kind]);
            trace += traces[kind];
            CHECK.due("trace " + kind, x.trace(), trace);
        }
        CHECK.due("below 0", x.mark(2, 0), -2);
        x.undo();
        CHECK.due("trace is not undone", x.trace(), trace + 101);
    }

    private static void markRefuses() {
        TemperNurses x = Check.told("t1 0 0;");
        CHECK.due("mark(-1, 0)", x.mark(-1, 0), -1000000);
        CHECK.due("mark(6, 0)", x.mark(6, 0), -1000000);
        CHECK.due("mark(0, -1)", x.mark(0, -1), -1000000);
        CHECK.due("mark(3, 1)", x.mark(3, 1), -1000000);
        CHECK.due("trace", x.trace(), 0);
    }

    private static void images() {
        TemperNurses x = Check.told("t20 1 0;t9 0 0;n4 2 99;");
        CHECK.due("keep(-1)", x.keep(-1), -1);
        CHECK.due("keep(2)", x.keep(2), -1);
        CHECK.due("back(-1)", x.back(-1), -1);
        CHECK.due("back(2)", x.back(2), -1);
        CHECK.due("none was kept", x.back(0), -2);
        x.sends(0, 0);
        x.mixes(0, 1);
        x.years(3);
        CHECK.due("keep(1)", x.keep(1), 3);
        CHECK.due("0 was not kept", x.back(0), -2);
        x.fetches(0);
        x.mixes(0, 1);
        x.years(2);
        x.hears(7, 1);
        x.mark(0, 0);
        x.type('t');
        CHECK.due("keep(0)", x.keep(0), 5);
        CHECK.due("back(1)", x.back(1), 3);
        CHECK.due("heat", x.temper(0, 0), 11);
        CHECK.due("place", x.temper(0, 3), 0);
        CHECK.due("owner", x.temper(0, 4), 1);
        CHECK.due("heard stays", x.count(2), 1);
        CHECK.due("trace stays", x.trace(), 1);
        CHECK.due("text stays", x.count(4), 1);
        CHECK.due("back(0)", x.back(0), 5);
        CHECK.due("heat", x.temper(0, 0), 13);
        CHECK.due("place", x.temper(0, 3), -9);
        CHECK.due("owner", x.temper(0, 4), 0);
        CHECK.due("back(1) again", x.back(1), 3);
        CHECK.due("keep(0) anew", x.keep(0), 3);
        CHECK.due("back(0)", x.back(0), 3);
    }

    private static void imageKeepsWhatMayBeUndone() {
        TemperNurses x = Check.told("t60 0 0;n4 2 99;");
        x.sends(0, 0);
        x.visits(0);
        x.keep(0);
        for (int i = 0; i < 12; i++) x.visits(0);
        CHECK.due("back", x.back(0), 0);
        CHECK.due("two may be undone", x.count(3), 2);
        CHECK.due("undo", x.undo(), 1);
        CHECK.due("heat", x.temper(0, 0), 60);
        CHECK.due("undo", x.undo(), 0);
        CHECK.due("home", x.temper(0, 3), -9);
        CHECK.due("none", x.undo(), -2);
        CHECK.due("the image is as it was", x.back(0), 0);
        CHECK.due("heat", x.temper(0, 0), 59);
        CHECK.due("back is not to be undone", x.count(3), 2);
    }

    private static void count() {
        TemperNurses x = Check.told("t20 1 0;t9 0 0;n4 2 99;");
        x.sends(0, 0);
        x.hears(0, 1);
        x.type('a');
        x.type('b');
        x.type('c');
        x.visits(0);
        x.visits(0);
        int[] due = {2, 1, 1, 3, 3};
        for (int what = 0; what < 5; what++) CHECK.due("count " + what, x.count(what), due[what]);
        CHECK.due("count(-1)", x.count(-1), -1);
        CHECK.due("count(5)", x.count(5), -1);
    }
}
