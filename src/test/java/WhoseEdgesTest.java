/** The edges of HEARD, WHOSE and ASK; promises 20 to 23. */
public final class WhoseEdgesTest {
    private static final Check CHECK = new Check("WhoseEdgesTest");

    public static void main(String[] args) {
        fourAtMost();
        allFourCount();
        hearsRefused();
        forget();
        banging();
        bangingOfTheBroken();
        bangingOfTheHottest();
        whoseOfNothingHeard();
        whoseOfNone();
        askOfFewerThanTwo();
        askNoneParts();
        askTheLeast();
        askHalves();
        askAtTheEdges();
        askAllPairs();
        CHECK.end();
    }

    private static void fourAtMost() {
        CHECK.sentence("HEARD (4 at most): how much there is. BAD; FULL");
        for (TemperNurses x : new TemperNurses[] {new TemperNurses(), Check.told("t1 0 0;")}) {
            for (int i = 1; i <= 4; i++) CHECK.due("hears " + i, x.hears(50, 0), i);
            CHECK.due("the fifth", x.hears(50, 0), -3);
            CHECK.due("the fifth again", x.hears(0, 1), -3);
            CHECK.due("there are four", x.count(2), 4);
            CHECK.due("BAD is ahead of FULL", x.hears(100, 0), -1);
            CHECK.due("BAD is ahead of FULL", x.hears(0, 2), -1);
            CHECK.due("forget", x.forget(), 4);
            for (int i = 1; i <= 4; i++) CHECK.due("hears again " + i, x.hears(50, 0), i);
            CHECK.due("the fifth", x.hears(50, 0), -3);
        }
    }

    private static void allFourCount() {
        CHECK.sentence("WHOSE: TEMPERS (bits) by which all that was HEARD is so");
        TemperNurses x = Check.told("t10 0 0;t20 0 0;t30 0 0;t40 0 0;t50 0 0;t60 0 0;");
        int[][] heard = {{60, 0}, {11, 1}, {50, 0}, {21, 1}};
        int[] whose = {31, 30, 14, 12};
        CHECK.due("nothing", x.whose(), 63);
        for (int i = 0; i < 4; i++) {
            x.hears(heard[i][0], heard[i][1]);
            CHECK.due("whose by " + (i + 1), x.whose(), whose[i]);
        }
        CHECK.due("the fifth", x.hears(31, 1), -3);
        CHECK.due("it does not count", x.whose(), 12);
    }

    private static void hearsRefused() {
        CHECK.sentence("BANGS at b (0 .. 99) (1), or not (0). BAD");
        TemperNurses x = Check.told("t1 0 0;");
        for (int b : new int[] {Integer.MIN_VALUE, -1, 0, 99, 100, Integer.MAX_VALUE}) {
            for (int bangs : new int[] {Integer.MIN_VALUE, -1, 0, 1, 2, Integer.MAX_VALUE}) {
                boolean right = b >= 0 && b <= 99 && (bangs == 0 || bangs == 1);
                CHECK.due("hears(" + b + ", " + bangs + ")", x.hears(b, bangs), right ? 1 : -1);
                CHECK.due("how much there is", x.forget(), right ? 1 : 0);
            }
        }
    }

    private static void forget() {
        CHECK.sentence("Nothing was HEARD: how much was");
        TemperNurses x = Check.told("t1 0 0;");
        for (int heard = 0; heard <= 4; heard++) {
            for (int i = 0; i < heard; i++) x.hears(2, 1);
            CHECK.due("whose by " + heard, x.whose(), heard == 0 ? 1 : 0);
            CHECK.due("forget " + heard, x.forget(), heard);
            CHECK.due("whose then", x.whose(), 1);
            CHECK.due("count then", x.count(2), 0);
        }
    }

    private static void banging() {
        CHECK.sentence("(1: its HEAT is b or more), or not (0)");
        for (int heat = 1; heat <= 60; heat++) {
            for (int bangs = 0; bangs <= 1; bangs++) {
                TemperNurses x = Check.told("t" + heat + " 0 0;");
                for (int b = 0; b <= 99; b++) {
                    x.hears(b, bangs);
                    CHECK.due(heat + " at " + b, x.whose(), (heat >= b) == (bangs == 1) ? 1 : 0);
                    x.forget();
                }
            }
        }
    }

    private static void bangingOfTheBroken() {
        CHECK.sentence("(1: its HEAT is b or more): a BROKEN one's 0");
        TemperNurses x = Check.told("t1 0 0;n1 1 9;");
        x.sends(0, 0);
        x.visits(0);
        int[][] heard = {{0, 1, 1}, {0, 0, 0}, {1, 1, 0}, {1, 0, 1}};
        for (int[] h : heard) {
            x.hears(h[0], h[1]);
            CHECK.due("at " + h[0] + ", " + h[1], x.whose(), h[2]);
            x.forget();
        }
    }

    private static void bangingOfTheHottest() {
        CHECK.sentence("BANGS at b (0 .. 99): 99");
        TemperNurses x = Check.told("t60 5 0;t58 5 0;");
        Check.letYearsGoBy(x, 8);
        CHECK.due("99 and 98", x.now(4), 197);
        x.hears(99, 1);
        CHECK.due("bangs at 99", x.whose(), 1);
        x.forget();
        x.hears(99, 0);
        CHECK.due("does not", x.whose(), 2);
        x.years(1);
        CHECK.due("both are of 99 NOW", x.whose(), 0);
        x.undo();
        CHECK.due("as it was", x.whose(), 2);
    }

    private static void whoseOfNothingHeard() {
        CHECK.sentence("WHOSE, as bits: nothing was HEARD");
        for (int tempers = 0; tempers <= 6; tempers++) {
            CHECK.due(tempers + " tempers", Check.told("t1 0 0;".repeat(tempers)).whose(), (1 << tempers) - 1);
        }
    }

    private static void whoseOfNone() {
        CHECK.sentence("WHOSE, as bits: none");
        TemperNurses x = Check.told("t1 0 0;t60 0 0;");
        x.hears(10, 1);
        x.hears(10, 1);
        CHECK.due("the same twice", x.whose(), 2);
        x.hears(10, 0);
        CHECK.due("that can't be", x.whose(), 0);
        CHECK.due("ask", x.ask(), -9);
        TemperNurses y = new TemperNurses();
        y.hears(0, 1);
        CHECK.due("no tempers", y.whose(), 0);
    }

    private static void askOfFewerThanTwo() {
        CHECK.sentence("ASK: NONE (fewer than 2)");
        CHECK.due("none", new TemperNurses().ask(), -9);
        CHECK.due("one", Check.told("t30 0 0;").ask(), -9);
        CHECK.due("two", Check.told("t30 0 0;t40 0 0;").ask(), 31);
        TemperNurses x = Check.told("t10 0 0;t20 0 0;t30 0 0;");
        x.hears(11, 1);
        CHECK.due("two are left", x.ask(), 21);
        x.hears(21, 1);
        CHECK.due("one is left", x.ask(), -9);
        x.hears(31, 1);
        CHECK.due("none is left", x.ask(), -9);
    }

    private static void askNoneParts() {
        CHECK.sentence("ASK: NONE (none parts them)");
        for (int tempers = 2; tempers <= 6; tempers++) {
            CHECK.due(tempers + " alike", Check.told("t7 0 0;".repeat(tempers)).ask(), -9);
            CHECK.due(tempers + " but for one", Check.told("t7 0 0;".repeat(tempers - 1) + "t8 0 0;").ask(), 8);
        }
        TemperNurses x = Check.told("t7 0 0;t7 0 0;t9 0 0;");
        x.hears(8, 0);
        CHECK.due("two alike are left", x.ask(), -9);
    }

    private static void askTheLeast() {
        CHECK.sentence("ASK: the greater part of these is least, of several the least");
        CHECK.due("11 .. 60", Check.told("t10 0 0;t60 0 0;").ask(), 11);
        CHECK.due("2 of 3 by either", Check.told("t30 0 0;t10 0 0;t20 0 0;").ask(), 11);
        CHECK.due("2 of 5 below, 3 of 5 below", Check.told("t10 0 0;t20 0 0;t30 0 0;t40 0 0;t50 0 0;").ask(), 21);
        CHECK.due("4 alike, 1 below, 1 above", Check.told("t9 0 0;t9 0 0;t9 0 0;t9 0 0;t1 0 0;t60 0 0;").ask(), 2);
    }

    private static void askHalves() {
        CHECK.sentence("ASK: the b by which, BANGING or not, the greater part of these is least");
        CHECK.due("3 and 3", Check.told("t10 0 0;t20 0 0;t30 0 0;t40 0 0;t50 0 0;t60 0 0;").ask(), 31);
        CHECK.due("2 and 2", Check.told("t10 0 0;t20 0 0;t30 0 0;t40 0 0;").ask(), 21);
        CHECK.due("1 and 3, 3 and 1 alike ones", Check.told("t10 0 0;t20 0 0;t20 0 0;t40 0 0;").ask(), 11);
        CHECK.due("2 and 4, not 1 and 5", Check.told("t1 0 0;t5 0 0;t9 0 0;t9 0 0;t9 0 0;t9 0 0;").ask(), 6);
        CHECK.due("4 and 2, not 5 and 1", Check.told("t9 0 0;t1 0 0;t1 0 0;t1 0 0;t1 0 0;t5 0 0;").ask(), 2);
    }

    private static void askAtTheEdges() {
        CHECK.sentence("ASK: b (0 .. 99)");
        TemperNurses x = Check.told("t1 5 0;t60 5 0;n1 1 9;");
        x.sends(0, 0);
        x.visits(0);
        CHECK.due("0 and 60", x.ask(), 1);
        TemperNurses y = Check.told("t58 5 0;t60 5 0;");
        y.years(8);
        CHECK.due("98 and 99", y.ask(), 99);
        y.years(1);
        CHECK.due("99 and 99", y.ask(), -9);
    }

    private static void askAllPairs() {
        CHECK.sentence("ASK: of two the b that is 1 above the cooler one's HEAT");
        for (int a = 1; a <= 60; a++) {
            for (int b = 1; b <= 60; b++) {
                int due = a == b ? -9 : Math.min(a, b) + 1;
                CHECK.due(a + " and " + b, Check.told("t" + a + " 0 0;t" + b + " 0 0;").ask(), due);
            }
        }
    }
}
