/** The edges of part 3's plans: WHEN, HOT, PLAN, SOONEST, BEST, BEDS, ODDS; promises 14 to 19. */
public final class PlansEdgesTest {
    private static final Check CHECK = new Check("PlansEdgesTest");
    private static final String SIX = "t1 0 0;".repeat(6);

    public static void main(String[] args) {
        whenForAllNumbers();
        whenIsLast();
        whenAsksNothingElse();
        whenRefused();
        hotAtHome();
        hotWithANurse();
        hotBroken();
        planHolds();
        planRoom();
        planClashes();
        planMostThenFirst();
        planWhereverTheyAre();
        planOfNone();
        soonestOfNone();
        soonestOfOne();
        soonestNone();
        soonestFewest();
        soonestOfTheBroken();
        bestFiftyLessHeat();
        bestBeyondDue();
        bestTillDue();
        bestOfSeveralTheLeast();
        bestInTwentyYears();
        bestRefused();
        bedsLimit();
        bedsOfTheBroken();
        bedsOfTheHottest();
        bedsMostThenFirst();
        bedsTheFirstWayIsNotTheBest();
        bedsRefused();
        oddsOfSix();
        oddsOfThoseNotBroken();
        oddsLeastTerms();
        oddsRefused();
        CHECK.end();
    }

    private static void whenForAllNumbers() {
        CHECK.sentence("WHEN: in how many YEARS (0 .. 99) it is BROKEN first; NONE");
        for (int heat = 1; heat <= 60; heat++) {
            for (int tames = 1; tames <= 9; tames++) {
                StringBuilder text = new StringBuilder("n" + tames + " 1 1;");
                for (int grows = 0; grows <= 5; grows++) text.append("t" + heat + " " + grows + " 0;");
                TemperNurses x = Check.told(text.toString());
                for (int grows = 0; grows <= 5; grows++) {
                    int less = tames - grows;
                    int due = less <= 0 ? -9 : (heat + less - 1) / less;
                    CHECK.due("when, " + heat + " grows " + grows + ", tames " + tames, x.when(grows, 0), due);
                }
            }
        }
    }

    /** No TEMPER that is ever BROKEN takes longer than 98 YEARS: one of HEAT 61 or more grows. */
    private static void whenIsLast() {
        CHECK.sentence("WHEN: YEARS (0 .. 99), the greatest that there are");
        for (int grows = 1; grows <= 5; grows++) {
            TemperNurses x = Check.told("t60 " + grows + " 0;n" + (grows + 1) + " 1 99;");
            for (int year = 0; year <= 45; year++) {
                int heat = Math.min(99, 60 + grows * year);
                CHECK.due("from " + heat + ", grows " + grows, x.when(0, 0), Math.min(heat, 99 - grows));
                CHECK.due("soonest from " + heat + ", grows " + grows, x.now(3), Math.min(heat, 99 - grows));
                x.years(1);
            }
        }
    }

    private static void whenAsksNothingElse() {
        CHECK.sentence("WHEN: were it with her all along");
        TemperNurses x = Check.told("t10 1 0;t10 0 0;n3 1 1;n9 1 99;n2 1 99;x0 1;");
        CHECK.due("whom she does not hold", x.when(0, 0), 5);
        x.sends(0, 1);
        CHECK.due("with another", x.when(0, 0), 5);
        CHECK.due("where it is", x.when(0, 1), 2);
        CHECK.due("no room, clashes", x.when(1, 1), 2);
        CHECK.due("all along, a year each", x.when(0, 2), 10);
        x.fetches(0);
        Check.letYearsGoBy(x, 99);
        CHECK.due("at YEAR 99, of 99", x.when(0, 2), 98);
        CHECK.due("nothing is changed", x.now(0), 99);
    }

    private static void whenRefused() {
        CHECK.sentence("WHEN; NONE. BAD");
        TemperNurses x = Check.told(SIX + "n1 1 9;n1 1 9;n1 1 9;n1 1 9;");
        for (int t = -1; t <= 6; t++) {
            for (int n = -1; n <= 4; n++) {
                boolean right = t >= 0 && t < 6 && n >= 0 && n < 4;
                CHECK.due("when(" + t + ", " + n + ")", x.when(t, n), right ? 1 : -1);
            }
        }
    }

    private static void hotAtHome() {
        CHECK.sentence("HOT in n (0 .. 99) YEARS: its HEAT, if it stays where it is (HOME)");
        for (int grows = 0; grows <= 5; grows++) {
            for (int heat : new int[] {1, 2, 59, 60}) {
                TemperNurses x = Check.told("t" + heat + " " + grows + " 0;");
                for (int n = 0; n <= 99; n++) CHECK.due("hot in " + n, x.hot(0, n), Math.min(99, heat + grows * n));
                CHECK.due("hot(0, -1)", x.hot(0, -1), -1);
                CHECK.due("hot(0, 100)", x.hot(0, 100), -1);
                CHECK.due("hot(1, 0)", x.hot(1, 0), -1);
                CHECK.due("hot(-1, 0)", x.hot(-1, 0), -1);
                CHECK.due("nothing is changed", x.temper(0, 0), heat);
            }
        }
    }

    private static void hotWithANurse() {
        CHECK.sentence("HOT in n (0 .. 99) YEARS: its HEAT, if it stays where it is (with a NURSE)");
        for (int grows = 0; grows <= 5; grows++) {
            for (int tames = 1; tames <= 9; tames++) {
                TemperNurses x = Check.told("t40 " + grows + " 0;n" + tames + " 1 99;");
                x.sends(0, 0);
                for (int n = 0; n <= 99; n++) {
                    int due = Math.max(0, Math.min(99 - tames, 40 + (grows - tames) * n));
                    CHECK.due("hot in " + n + ", grows " + grows + ", tames " + tames, x.hot(0, n), due);
                }
            }
        }
    }

    private static void hotBroken() {
        CHECK.sentence("HOT of one that is BROKEN, or will be");
        TemperNurses x = Check.told("t1 5 0;n1 1 99;n9 1 99;");
        x.sends(0, 1);
        CHECK.due("in 0", x.hot(0, 0), 1);
        CHECK.due("in 1", x.hot(0, 1), 0);
        CHECK.due("in 99", x.hot(0, 99), 0);
        x.years(1);
        x.sends(0, 0);
        CHECK.due("with her who tames less than it grows", x.hot(0, 99), 0);
        x.fetches(0);
        CHECK.due("at home", x.hot(0, 99), 0);
    }

    private static void planHolds() {
        CHECK.sentence("PLAN: none is with her whom she does not HOLD");
        planned("t5 0 0;n1 1 5;", 1, 0);
        planned("t6 0 0;n1 1 5;", 0, -9);
        planned("t6 0 0;n1 1 5;n1 1 6;", 1, 1);
        TemperNurses x = Check.told("t5 1 0;n1 1 5;");
        x.sends(0, 0);
        x.fetches(0);
        x.years(1);
        CHECK.due("of 6 NOW", x.plan(-1), 0);
        CHECK.due("of 6 NOW", x.plan(0), -9);
    }

    private static void planRoom() {
        CHECK.sentence("PLAN: she has ROOM for all");
        planned(SIX + "n1 1 1;", 1, 0, -9, -9, -9, -9, -9);
        planned(SIX + "n1 2 1;", 2, 0, 0, -9, -9, -9, -9);
        planned(SIX + "n1 3 1;", 3, 0, 0, 0, -9, -9, -9);
        planned(SIX + "n1 3 1;n1 2 1;", 5, 0, 0, 0, 1, 1, -9);
        planned(SIX + "n1 3 1;n1 3 1;", 6, 0, 0, 0, 1, 1, 1);
        planned(SIX + "n1 1 1;n1 1 1;n1 1 1;n1 3 1;", 6, 0, 1, 2, 3, 3, 3);
        planned(SIX + "n1 3 1;n1 3 1;n1 3 1;n1 3 1;", 6, 0, 0, 0, 1, 1, 1);
    }

    private static void planClashes() {
        CHECK.sentence("PLAN: no two CLASH there");
        String four = "t1 0 0;".repeat(4) + "x0 1;x0 2;x0 3;x1 2;x1 3;x2 3;";
        planned(four + "n1 3 1;", 1, 0, -9, -9, -9);
        planned(four + "n1 3 1;n1 3 1;n1 3 1;", 3, 0, 1, 2, -9);
        planned(four + "n1 3 1;n1 3 1;n1 3 1;n1 3 1;", 4, 0, 1, 2, 3);
        planned("t1 0 0;t1 0 0;n1 2 1;", 2, 0, 0);
        planned("t1 0 0;t1 0 0;n1 2 1;x1 0;", 1, 0, -9);
    }

    private static void planMostThenFirst() {
        CHECK.sentence("PLAN: that in which most are with one, of several the first (the lowest NURSE, HOME last)");
        planned("t1 0 0;n1 1 1;n1 1 1;", 1, 0);
        planned("t5 0 0;t9 0 0;n1 1 9;n1 1 5;", 2, 1, 0);
        planned("t1 0 0;t1 0 0;t1 0 0;n1 2 1;x0 1;x0 2;", 2, -9, 0, 0);
        planned("t1 0 0;t1 0 0;t1 0 0;n1 3 1;x0 1;", 2, 0, -9, 0);
        planned("t1 0 0;t1 0 0;n1 1 1;", 1, 0, -9);
        planned("t1 0 0;t2 0 0;t3 0 0;n1 1 3;n1 1 2;n1 1 1;", 3, 2, 1, 0);
    }

    private static void planWhereverTheyAre() {
        CHECK.sentence("PLAN: all TEMPERS, wherever they are");
        TemperNurses x = Check.told("t1 0 0;t1 0 0;t1 0 0;n1 1 1;n1 1 1;");
        x.sends(2, 0);
        x.sends(1, 1);
        CHECK.due("how many", x.plan(-1), 2);
        int[] due = {0, 1, -9};
        for (int t = 0; t < 3; t++) CHECK.due("plan(" + t + ")", x.plan(t), due[t]);
        x.visits(2);
        x.visits(1);
        CHECK.due("broken ones, too", x.plan(-1), 2);
        for (int t = 0; t < 3; t++) CHECK.due("plan(" + t + ")", x.plan(t), due[t]);
        CHECK.due("2 is where it was", x.temper(2, 3), 0);
    }

    private static void planOfNone() {
        CHECK.sentence("PLAN: how many (t = -1), the NURSE of a TEMPER; NONE. BAD");
        CHECK.due("no tempers", Check.told("n1 1 1;").plan(-1), 0);
        CHECK.due("no tempers", Check.told("n1 1 1;").plan(0), -1);
        planned(SIX, 0, -9, -9, -9, -9, -9, -9);
        TemperNurses x = Check.told(SIX + "n1 1 1;");
        CHECK.due("plan(-2)", x.plan(-2), -1);
        CHECK.due("plan(6)", x.plan(6), -1);
        CHECK.due("plan(5)", x.plan(5), -9);
        CHECK.due("plan(1) of one", Check.told("t1 0 0;n1 1 1;").plan(1), -1);
    }

    private static void soonestOfNone() {
        CHECK.sentence("SOONEST: the fewest YEARS (0 .. 99): 0");
        CHECK.due("no tempers, no nurses", new TemperNurses().now(3), 0);
        CHECK.due("no tempers", Check.told("n1 1 1;").now(3), 0);
        TemperNurses x = Check.told("t1 0 0;t1 0 0;n1 2 1;");
        CHECK.due("1", x.now(3), 1);
        x.sends(0, 0);
        x.sends(1, 0);
        x.visits(0);
        CHECK.due("one is broken", x.now(3), 1);
        x.visits(1);
        CHECK.due("all are broken", x.now(3), 0);
        x.fetches(0);
        x.fetches(1);
        CHECK.due("all are broken, at home", x.now(3), 0);
    }

    private static void soonestOfOne() {
        CHECK.sentence("SOONEST: the fewest YEARS behind which all TEMPERS are BROKEN");
        CHECK.due("9 by 9", Check.told("t9 0 0;n9 1 99;").now(3), 1);
        CHECK.due("10 by 9", Check.told("t10 0 0;n9 1 99;").now(3), 2);
        CHECK.due("60 by 1", Check.told("t60 0 0;n1 1 60;").now(3), 60);
        TemperNurses x = Check.told("t60 1 0;n2 1 99;");
        Check.letYearsGoBy(x, 99);
        CHECK.due("99 by 2, grows 1, at YEAR 99", x.now(3), 98);
    }

    private static void soonestNone() {
        CHECK.sentence("SOONEST: NONE");
        CHECK.due("no nurse", Check.told("t1 0 0;").now(3), -9);
        CHECK.due("she holds it", Check.told("t10 0 0;n1 1 10;").now(3), 10);
        CHECK.due("she does not hold it", Check.told("t11 0 0;n1 1 10;").now(3), -9);
        CHECK.due("room for all", Check.told(SIX + "n1 3 9;n1 3 9;").now(3), 1);
        CHECK.due("no room for one", Check.told(SIX + "n1 3 9;n1 2 9;").now(3), -9);
        CHECK.due("no clash", Check.told("t1 0 0;t1 0 0;n1 2 9;").now(3), 1);
        CHECK.due("a clash", Check.told("t1 0 0;t1 0 0;n1 2 9;x0 1;").now(3), -9);
        CHECK.due("a clash, two nurses", Check.told("t1 0 0;t1 0 0;n1 2 9;n1 2 9;x0 1;").now(3), 1);
        CHECK.due("tames more than it grows", Check.told("t5 4 0;n5 1 9;").now(3), 5);
        CHECK.due("tames as it grows", Check.told("t5 5 0;n5 1 9;").now(3), -9);
        CHECK.due("one of two never", Check.told("t1 0 0;t5 5 0;n5 3 9;").now(3), -9);
    }

    private static void soonestFewest() {
        CHECK.sentence("SOONEST: the fewest YEARS, by such a way");
        CHECK.due("5 and 4, not 2 and 10", Check.told("t10 0 0;t20 0 0;n2 1 99;n5 1 99;").now(3), 5);
        CHECK.due("2 and 10: 20 is not held", Check.told("t10 0 0;t20 0 0;n2 1 99;n5 1 19;").now(3), 10);
        CHECK.due("20 is just held", Check.told("t10 0 0;t20 0 0;n2 1 99;n5 1 20;").now(3), 5);
        CHECK.due("both with the better", Check.told("t10 0 0;t20 0 0;n2 1 99;n5 2 99;").now(3), 4);
        CHECK.due("both can't be", Check.told("t10 0 0;t20 0 0;n2 1 99;n5 2 99;x0 1;").now(3), 5);
        CHECK.due("wherever they are", soonestElsewhere().now(3), 5);
        CHECK.due("six, and four nurses", Check.told("t9 0 0;".repeat(6) + "n1 1 9;n2 1 9;n3 1 9;n9 3 9;").now(3), 9);
        CHECK.due("six, and room for all with the best", Check.told("t9 0 0;".repeat(6) + "n1 3 9;n2 3 9;n3 3 9;n9 3 9;").now(3), 3);
    }

    private static TemperNurses soonestElsewhere() {
        TemperNurses x = Check.told("t10 0 0;t20 0 0;n2 1 99;n5 1 99;");
        x.sends(0, 1);
        x.sends(1, 0);
        return x;
    }

    private static void soonestOfTheBroken() {
        CHECK.sentence("(those that are BROKEN NOW may be at HOME)");
        TemperNurses x = Check.told("t1 0 0;t7 0 0;n1 1 9;n1 1 1;x0 1;");
        CHECK.due("both with one", x.now(3), 7);
        TemperNurses y = Check.told("t1 0 0;t7 0 0;n1 1 9;x0 1;");
        CHECK.due("no room for both", y.now(3), -9);
        y.sends(0, 0);
        CHECK.due("no room for both, wherever it is", y.now(3), -9);
        y.visits(0);
        CHECK.due("it is broken", y.now(3), 7);
        y.undo();
        CHECK.due("it is not", y.now(3), -9);
    }

    private static void bestFiftyLessHeat() {
        CHECK.sentence("BEST: 50 less its HEAT then (0 at least)");
        for (int heat = 1; heat <= 60; heat++) {
            TemperNurses x = Check.told("t" + heat + " 0 0;");
            CHECK.due("how much of " + heat, x.best(0, 1), Math.max(0, 50 - heat));
            CHECK.due("n of " + heat, x.best(0, 0), 0);
        }
        TemperNurses x = Check.told("t1 0 40;n1 1 9;");
        x.sends(0, 0);
        CHECK.due("1", x.best(0, 1), 49);
        x.visits(0);
        CHECK.due("broken", x.best(0, 1), 50);
        CHECK.due("broken", x.best(0, 0), 0);
    }

    private static void bestBeyondDue() {
        CHECK.sentence("BEST: 30 less, if YEAR is beyond DUE then");
        for (int due = 0; due <= 40; due++) {
            TemperNurses x = Check.told("t20 0 " + due + ";t60 5 " + due + ";");
            Check.letYearsGoBy(x, due);
            CHECK.due("at " + due, x.best(0, 1), 30);
            CHECK.due("a hot one at " + due, x.best(1, 1), 0);
            x.years(1);
            CHECK.due("beyond " + due, x.best(0, 1), 0);
            CHECK.due("a hot one beyond " + due, x.best(1, 1), -30);
            CHECK.due("n beyond " + due, x.best(1, 0), 0);
            Check.letYearsGoBy(x, 98 - due);
            CHECK.due("at YEAR 99", x.best(0, 1), 0);
        }
    }

    private static void bestTillDue() {
        CHECK.sentence("BEST: if YEAR is beyond DUE then, in n YEARS");
        for (int due = 0; due <= 40; due++) {
            TemperNurses x = Check.told("t40 0 " + due + ";n5 1 99;");
            x.sends(0, 0);
            int n = Math.min(8, due);
            CHECK.due("n, due " + due, x.best(0, 0), n);
            CHECK.due("how much, due " + due, x.best(0, 1), 10 + 3 * n);
        }
        TemperNurses y = Check.told("t60 0 0;n9 1 99;");
        y.sends(0, 0);
        CHECK.due("better late: n", y.best(0, 0), 7);
        CHECK.due("better late: how much", y.best(0, 1), 6);
    }

    private static void bestOfSeveralTheLeast() {
        CHECK.sentence("BEST: is most, of several the least");
        for (int tames = 1; tames <= 3; tames++) {
            TemperNurses x = Check.told("t20 0 40;n" + tames + " 1 99;");
            x.sends(0, 0);
            CHECK.due("n, tames " + tames, x.best(0, 0), tames == 3 ? 6 : 0);
            CHECK.due("how much, tames " + tames, x.best(0, 1), tames == 3 ? 36 : 30);
        }
        TemperNurses y = Check.told("t18 0 40;n3 1 99;");
        y.sends(0, 0);
        CHECK.due("till it is broken", y.best(0, 0), 6);
        CHECK.due("till it is broken", y.best(0, 1), 38);
    }

    private static void bestInTwentyYears() {
        CHECK.sentence("BEST: of n 0 .. 20 YEARS from NOW");
        TemperNurses x = Check.told("t57 0 40;t60 0 40;t60 0 19;t60 0 20;n3 3 99;n3 1 99;");
        for (int t = 0; t < 4; t++) x.sends(t, t / 3);
        int[][] due = {{19, 12}, {20, 10}, {19, 9}, {20, 10}};
        for (int t = 0; t < 4; t++) {
            CHECK.due("n of " + t, x.best(t, 0), due[t][0]);
            CHECK.due("how much of " + t, x.best(t, 1), due[t][1]);
        }
        TemperNurses y = Check.told("t60 3 40;n6 1 99;");
        y.years(1);
        y.sends(0, 0);
        CHECK.due("21 would be better by 1: n", y.best(0, 0), 20);
        CHECK.due("21 would be better by 1: how much", y.best(0, 1), 7);
    }

    private static void bestRefused() {
        CHECK.sentence("BEST: n (what = 0), how much (1). NO: BAD");
        TemperNurses x = Check.told(SIX);
        for (int t = -1; t <= 6; t++) {
            for (int what = -1; what <= 2; what++) {
                boolean right = t >= 0 && t < 6 && (what == 0 || what == 1);
                CHECK.due("best(" + t + ", " + what + ")", x.best(t, what), right ? 49 * what : -1000000);
            }
        }
    }

    private static void bedsLimit() {
        CHECK.sentence("BEDS: HEATS of both together L at most");
        for (int a : new int[] {1, 2, 30, 59, 60}) {
            for (int b : new int[] {1, 5, 31, 60}) {
                TemperNurses x = Check.told("t" + a + " 0 0;t" + b + " 0 0;");
                CHECK.due("just", x.beds(a + b, -1), 1);
                CHECK.due("just, the other one", x.beds(a + b, 0), 1);
                CHECK.due("just, the other one", x.beds(a + b, 1), 0);
                CHECK.due("one less", x.beds(a + b - 1, -1), 0);
                CHECK.due("one less, the other one", x.beds(a + b - 1, 0), -9);
                CHECK.due("one less, the other one", x.beds(a + b - 1, 1), -9);
            }
        }
    }

    private static void bedsOfTheBroken() {
        CHECK.sentence("BEDS for L (0 .. 198): 0");
        TemperNurses x = Check.told("t1 0 0;t1 0 0;t1 0 0;n1 3 9;");
        for (int t = 0; t < 3; t++) x.sends(t, 0);
        CHECK.due("none is broken", x.beds(0, -1), 0);
        x.visits(0);
        CHECK.due("one is broken", x.beds(0, -1), 0);
        CHECK.due("one is broken, L 1", x.beds(1, 0), 1);
        x.visits(2);
        CHECK.due("two are broken", x.beds(0, -1), 1);
        CHECK.due("two are broken", x.beds(0, 0), 2);
        CHECK.due("the one that is not", x.beds(0, 1), -9);
    }

    private static void bedsOfTheHottest() {
        CHECK.sentence("BEDS for L (0 .. 198): 198");
        TemperNurses x = Check.told("t60 5 0;t60 5 0;t60 5 0;x0 1;");
        Check.letYearsGoBy(x, 9);
        CHECK.due("beds(197, -1)", x.beds(197, -1), 0);
        CHECK.due("beds(198, -1)", x.beds(198, -1), 1);
        CHECK.due("no two that clash", x.beds(198, 0), 2);
        CHECK.due("alone", x.beds(198, 1), -9);
    }

    private static void bedsMostThenFirst() {
        CHECK.sentence("BEDS: that with most beds, of several the first (the lowest other one, alone last)");
        bedded("t1 0 0;", 0, -9);
        bedded("t1 0 0;t1 0 0;", 1, 1, 0);
        bedded("t1 0 0;t1 0 0;t1 0 0;", 1, 1, 0, -9);
        bedded("t1 0 0;t1 0 0;t1 0 0;x0 1;", 1, 2, -9, 0);
        bedded("t1 0 0;t1 0 0;t1 0 0;x0 1;x0 2;", 1, -9, 2, 1);
        bedded("t1 0 0;".repeat(4) + "x0 3;x2 3;", 2, 2, 3, 0, 1);
        bedded("t1 0 0;".repeat(5), 2, 1, 0, 3, 2, -9);
        bedded(SIX, 3, 1, 0, 3, 2, 5, 4);
        bedded(SIX + "x0 1;x0 2;x0 3;x0 4;", 3, 5, 2, 1, 4, 3, 0);
        bedded(SIX + "x0 1;x0 2;x0 3;x0 4;x0 5;", 2, -9, 2, 1, 4, 3, -9);
        CHECK.due("no tempers", new TemperNurses().beds(198, -1), 0);
    }

    /** 0 may lie with 1 or 2, 1 with 3, 2 with 4, 4 with 5: 0 and 1 together leave 3 alone. */
    private static void bedsTheFirstWayIsNotTheBest() {
        CHECK.sentence("BEDS: of all ways, that with most beds");
        String clashes = "x0 3;x0 4;x0 5;x1 2;x1 4;x1 5;x2 3;x2 5;x3 4;x3 5;";
        bedded(SIX + clashes, 3, 2, 3, 0, 1, 5, 4);
        bedded("t1 0 0;".repeat(4) + "x0 3;x1 2;", 2, 1, 0, 3, 2);
    }

    private static void bedsRefused() {
        CHECK.sentence("BEDS: how many (t = -1), the other one of a TEMPER; NONE. BAD");
        TemperNurses x = Check.told("t60 0 0;".repeat(6));
        for (int limit : new int[] {-1, 0, 119, 120, 198, 199}) {
            for (int t = -2; t <= 6; t++) {
                int due = t == -1 ? 3 : t % 2 == 0 ? t + 1 : t - 1;
                if (limit < 120) due = t == -1 ? 0 : -9;
                if (limit < 0 || limit > 198 || t < -1 || t > 5) due = -1;
                CHECK.due("beds(" + limit + ", " + t + ")", x.beds(limit, t), due);
            }
        }
    }

    private static void oddsOfSix() {
        CHECK.sentence("ODDS by x (0 .. 10), k (0 .. 6): that k at most do");
        TemperNurses x = Check.told(SIX);
        int[][] halves = {{1, 64}, {7, 64}, {11, 32}, {21, 32}, {57, 64}, {63, 64}, {1, 1}};
        for (int k = 0; k <= 6; k++) fraction(x, 5, k, halves[k][0], halves[k][1]);
        for (int k = 0; k <= 6; k++) fraction(x, 0, k, 1, 1);
        for (int k = 0; k <= 5; k++) fraction(x, 10, k, 0, 1);
        for (int loose = 0; loose <= 10; loose++) fraction(x, loose, 6, 1, 1);
        fraction(x, 1, 0, 531441, 1000000);
        fraction(x, 1, 5, 999999, 1000000);
        fraction(x, 9, 0, 1, 1000000);
        fraction(x, 9, 5, 468559, 1000000);
    }

    private static void oddsOfThoseNotBroken() {
        CHECK.sentence("ODDS: each TEMPER that is not BROKEN");
        TemperNurses x = Check.told(SIX + "n1 1 9;");
        for (int left = 6; left >= 0; left--) {
            fraction(x, 5, 0, 1, 1 << left);
            fraction(x, 10, left, 1, 1);
            if (left > 0) fraction(x, 10, left - 1, 0, 1);
            if (left == 0) continue;
            x.sends(left - 1, 0);
            x.visits(left - 1);
            x.fetches(left - 1);
        }
        fraction(new TemperNurses(), 10, 0, 1, 1);
        fraction(new TemperNurses(), 5, 6, 1, 1);
        TemperNurses y = Check.told("t1 0 0;");
        Check.letYearsGoBy(y, 99);
        fraction(y, 5, 0, 1, 2);
        fraction(y, 10, 0, 0, 1);
        TemperNurses z = new TemperNurses();
        z.years(1);
        fraction(z, 10, 0, 1, 1);
    }

    private static void oddsLeastTerms() {
        CHECK.sentence("ODDS: upper (what = 0), lower number (1), in least terms");
        TemperNurses x = Check.told(SIX);
        fraction(x, 2, 0, 4096, 15625);
        fraction(x, 4, 0, 729, 15625);
        fraction(x, 6, 0, 64, 15625);
        TemperNurses y = Check.told("t1 0 0;");
        int[][] least = {{1, 1}, {9, 10}, {4, 5}, {7, 10}, {3, 5}, {1, 2}, {2, 5}, {3, 10}, {1, 5}, {1, 10}, {0, 1}};
        for (int loose = 0; loose <= 10; loose++) fraction(y, loose, 0, least[loose][0], least[loose][1]);
    }

    private static void oddsRefused() {
        CHECK.sentence("ODDS: BAD");
        for (TemperNurses x : new TemperNurses[] {new TemperNurses(), Check.told(SIX)}) {
            CHECK.due("odds(-1, 0, 0)", x.odds(-1, 0, 0), -1);
            CHECK.due("odds(11, 0, 0)", x.odds(11, 0, 0), -1);
            CHECK.due("odds(0, -1, 0)", x.odds(0, -1, 0), -1);
            CHECK.due("odds(0, 7, 0)", x.odds(0, 7, 0), -1);
            CHECK.due("odds(0, 0, -1)", x.odds(0, 0, -1), -1);
            CHECK.due("odds(0, 0, 2)", x.odds(0, 0, 2), -1);
            CHECK.due("odds(0, 6, 1)", x.odds(0, 6, 1), 1);
        }
    }

    private static void planned(String text, int most, int... nurses) {
        TemperNurses x = Check.told(text);
        CHECK.due("plan of " + text, x.plan(-1), most);
        for (int t = 0; t < nurses.length; t++) CHECK.due("plan " + t + " of " + text, x.plan(t), nurses[t]);
    }

    private static void bedded(String text, int most, int... others) {
        TemperNurses x = Check.told(text);
        CHECK.due("beds of " + text, x.beds(2, -1), most);
        for (int t = 0; t < others.length; t++) CHECK.due("beds of " + text + " " + t, x.beds(2, t), others[t]);
    }

    private static void fraction(TemperNurses x, int loose, int k, int upper, int lower) {
        CHECK.due("odds " + loose + " " + k + " upper", x.odds(loose, k, 0), upper);
        CHECK.due("odds " + loose + " " + k + " lower", x.odds(loose, k, 1), lower);
    }
}
