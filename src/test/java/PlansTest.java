/** Promises 14 to 19: when, hot, plan, best, beds, odds. */
public final class PlansTest {
    private static final Check CHECK = new Check("PlansTest");

    public static void main(String[] args) {
        when();
        hot();
        plan();
        planByHeatNow();
        best();
        beds();
        odds();
        CHECK.end();
    }

    private static void when() {
        TemperNurses x = Check.told("t10 2 5;t60 3 0;t60 5 0;n4 1 5;n2 1 99;n6 1 99;");
        CHECK.due("when, whom she does not hold", x.when(0, 0), 5);
        CHECK.due("never", x.when(0, 1), -9);
        CHECK.due("60", x.when(1, 0), 60);
        x.years(9);
        x.years(9);
        CHECK.due("from 99 on", x.when(2, 2), 94);
        CHECK.due("from 46 on, the year does not matter", x.when(0, 0), 23);
        for (int i = 0; i < 9; i++) x.years(9);
        CHECK.due("year 99", x.now(0), 99);
        CHECK.due("beyond year 99", x.when(2, 2), 94);
        CHECK.due("when(-1, 0)", x.when(-1, 0), -1);
        CHECK.due("when(3, 0)", x.when(3, 0), -1);
        CHECK.due("when(0, -1)", x.when(0, -1), -1);
        CHECK.due("when(0, 3)", x.when(0, 3), -1);
        TemperNurses y = Check.told("t1 5 0;n9 1 5;");
        y.sends(0, 0);
        y.years(1);
        CHECK.due("broken", y.when(0, 0), 0);
        CHECK.due("nothing is changed", y.now(0), 1);
    }

    private static void hot() {
        TemperNurses x = Check.told("t10 2 5;n4 1 20;");
        CHECK.due("now", x.hot(0, 0), 10);
        CHECK.due("at home", x.hot(0, 3), 16);
        CHECK.due("at home, 99 at most", x.hot(0, 99), 99);
        x.sends(0, 0);
        CHECK.due("with her", x.hot(0, 3), 4);
        CHECK.due("broken", x.hot(0, 5), 0);
        CHECK.due("broken long since", x.hot(0, 99), 0);
        CHECK.due("nothing is changed", x.temper(0, 0), 10);
        CHECK.due("hot(0, 100)", x.hot(0, 100), -1);
        CHECK.due("hot(0, -1)", x.hot(0, -1), -1);
        CHECK.due("hot(1, 0)", x.hot(1, 0), -1);
        CHECK.due("hot(-1, 0)", x.hot(-1, 0), -1);
    }

    private static void plan() {
        planned("t5 0 0;t5 0 0;t5 0 0;n1 1 9;n1 1 9;", 2, 0, 1, -9);
        planned("t5 0 0;t9 0 0;n1 1 9;n1 1 5;", 2, 1, 0);
        planned("t5 0 0;t5 0 0;t5 0 0;n1 3 9;x0 1;", 2, 0, -9, 0);
        planned("t5 0 0;t5 0 0;t5 0 0;n1 3 9;x0 1;x0 2;", 2, -9, 0, 0);
        planned("t10 0 0;t5 0 0;n1 3 9;", 1, -9, 0);
        planned("t10 0 0;", 0, -9);
        planned("t6 0 0;t5 0 0;t4 0 0;t3 0 0;t2 0 0;t1 0 0;n1 1 4;n1 1 3;n1 1 2;n1 1 1;", 4, -9, -9, 0, 1, 2, 3);
        CHECK.due("no tempers", Check.told("n1 1 1;").plan(-1), 0);
        TemperNurses x = Check.told("t5 0 0;n1 1 9;");
        CHECK.due("plan(-2)", x.plan(-2), -1);
        CHECK.due("plan(1)", x.plan(1), -1);
    }

    private static void planByHeatNow() {
        TemperNurses x = Check.told("t5 1 0;t4 0 0;n2 1 5;n2 1 9;");
        CHECK.due("at first", x.plan(0), 0);
        x.sends(1, 0);
        CHECK.due("wherever they are", x.plan(0), 0);
        x.years(1);
        CHECK.due("too hot for 0 now", x.plan(0), 1);
        CHECK.due("the other one", x.plan(1), 0);
        x.years(9);
        CHECK.due("too hot for both, a broken one is planned, too", x.plan(-1), 1);
        CHECK.due("none", x.plan(0), -9);
        CHECK.due("nothing is changed", x.temper(1, 3), 0);
    }

    private static void best() {
        TemperNurses x = Check.told("t40 0 3;t40 0 20;t60 5 0;t20 0 0;n5 3 99;n2 1 99;");
        CHECK.due("at home", x.best(0, 0), 0);
        CHECK.due("at home", x.best(0, 1), 10);
        CHECK.due("0 at least", x.best(2, 1), 0);
        x.sends(0, 0);
        x.sends(1, 0);
        x.sends(3, 1);
        CHECK.due("till it is due", x.best(0, 0), 3);
        CHECK.due("till it is due", x.best(0, 1), 19);
        CHECK.due("till it is broken", x.best(1, 0), 8);
        CHECK.due("till it is broken", x.best(1, 1), 34);
        CHECK.due("of several the least", x.best(3, 0), 0);
        CHECK.due("due, not beyond", x.best(3, 1), 30);
        x.years(1);
        CHECK.due("beyond", x.best(3, 1), 2);
        CHECK.due("a year later", x.best(0, 0), 2);
        CHECK.due("a year later", x.best(0, 1), 21);
        CHECK.due("below 0", x.best(2, 1), -30);
        CHECK.due("best(-1, 0)", x.best(-1, 0), -1000000);
        CHECK.due("best(4, 0)", x.best(4, 0), -1000000);
        CHECK.due("best(0, 2)", x.best(0, 2), -1000000);
        CHECK.due("best(0, -1)", x.best(0, -1), -1000000);
        TemperNurses y = Check.told("t60 1 40;n4 1 99;");
        y.sends(0, 0);
        CHECK.due("in 20 years", y.best(0, 0), 20);
        CHECK.due("in 20 years", y.best(0, 1), 10);
        TemperNurses z = Check.told("t60 3 40;n6 1 99;");
        z.years(1);
        z.sends(0, 0);
        CHECK.due("21 years would be better", z.best(0, 0), 20);
        CHECK.due("21 years would be better", z.best(0, 1), 7);
    }

    private static void beds() {
        String six = "t24 2 10;t15 1 6;t40 3 25;t9 0 2;t33 4 30;t18 2 8;x0 2;x1 3;x3 5;";
        bedded(six, 40, 2, 3, 5, -9, 0, -9, 1);
        bedded(six, 50, 3, 5, 4, 3, 2, 1, 0);
        bedded(six, 198, 3, 1, 0, 3, 2, 5, 4);
        bedded(six, 0, 0, -9, -9, -9, -9, -9, -9);
        bedded("t1 0 0;t1 0 0;t1 0 0;", 2, 1, 1, 0, -9);
        bedded("t1 0 0;t1 0 0;t1 0 0;", 1, 0, -9, -9, -9);
        bedded("t9 0 0;t1 0 0;t1 0 0;t2 0 0;", 10, 2, 1, 0, 3, 2);
        bedded("t9 0 0;t1 0 0;t1 0 0;t2 0 0;x0 1;", 10, 2, 2, 3, 0, 1);
        CHECK.due("no tempers", new TemperNurses().beds(198, -1), 0);
        TemperNurses x = Check.told(six);
        CHECK.due("beds(-1, 0)", x.beds(-1, 0), -1);
        CHECK.due("beds(199, 0)", x.beds(199, 0), -1);
        CHECK.due("beds(0, -2)", x.beds(0, -2), -1);
        CHECK.due("beds(0, 6)", x.beds(0, 6), -1);
        TemperNurses y = Check.told("t1 5 0;t1 5 0;");
        y.years(9);
        CHECK.due("by their heats now", y.beds(91, -1), 0);
        CHECK.due("by their heats now", y.beds(92, -1), 1);
    }

    private static void odds() {
        TemperNurses x = Check.told("t1 0 0;t1 0 0;t1 0 0;n1 1 9;");
        fraction(x, 5, 0, 1, 8);
        fraction(x, 5, 1, 1, 2);
        fraction(x, 5, 2, 7, 8);
        fraction(x, 5, 3, 1, 1);
        fraction(x, 5, 6, 1, 1);
        fraction(x, 3, 1, 98, 125);
        fraction(x, 0, 0, 1, 1);
        fraction(x, 10, 2, 0, 1);
        fraction(x, 10, 3, 1, 1);
        x.sends(0, 0);
        x.years(1);
        fraction(x, 5, 0, 1, 4);
        fraction(Check.told("t1 0 0;t1 0 0;t1 0 0;t1 0 0;t1 0 0;t1 0 0;"), 9, 5, 468559, 1000000);
        fraction(new TemperNurses(), 10, 0, 1, 1);
        CHECK.due("odds(-1, 0, 0)", x.odds(-1, 0, 0), -1);
        CHECK.due("odds(11, 0, 0)", x.odds(11, 0, 0), -1);
        CHECK.due("odds(0, -1, 0)", x.odds(0, -1, 0), -1);
        CHECK.due("odds(0, 7, 0)", x.odds(0, 7, 0), -1);
        CHECK.due("odds(0, 0, -1)", x.odds(0, 0, -1), -1);
        CHECK.due("odds(0, 0, 2)", x.odds(0, 0, 2), -1);
    }

    private static void planned(String text, int most, int... nurses) {
        TemperNurses x = Check.told(text);
        CHECK.due("plan of " + text, x.plan(-1), most);
        for (int t = 0; t < nurses.length; t++) CHECK.due("plan " + t + " of " + text, x.plan(t), nurses[t]);
    }

    private static void bedded(String text, int limit, int most, int... others) {
        TemperNurses x = Check.told(text);
        String call = "beds " + limit + " of " + text;
        CHECK.due(call, x.beds(limit, -1), most);
        for (int t = 0; t < others.length; t++) CHECK.due(call + " " + t, x.beds(limit, t), others[t]);
    }

    private static void fraction(TemperNurses x, int loose, int k, int upper, int lower) {
        CHECK.due("odds " + loose + " " + k + " upper", x.odds(loose, k, 0), upper);
        CHECK.due("odds " + loose + " " + k + " lower", x.odds(loose, k, 1), lower);
    }
}
