/** Promises 20 to 23: hears, forget, whose, ask. */
public final class WhoseTest {
    private static final Check CHECK = new Check("WhoseTest");

    public static void main(String[] args) {
        hearsAndForget();
        whose();
        ask();
        CHECK.end();
    }

    private static void hearsAndForget() {
        TemperNurses x = new TemperNurses();
        CHECK.due("hears(-1, 0)", x.hears(-1, 0), -1);
        CHECK.due("hears(100, 0)", x.hears(100, 0), -1);
        CHECK.due("hears(0, -1)", x.hears(0, -1), -1);
        CHECK.due("hears(0, 2)", x.hears(0, 2), -1);
        CHECK.due("hears 1", x.hears(0, 0), 1);
        CHECK.due("hears 2", x.hears(99, 1), 2);
        CHECK.due("hears 3", x.hears(0, 0), 3);
        CHECK.due("hears 4", x.hears(0, 0), 4);
        CHECK.due("full", x.hears(0, 0), -3);
        CHECK.due("BAD comes ahead of FULL", x.hears(0, 2), -1);
        CHECK.due("count", x.count(2), 4);
        CHECK.due("forget", x.forget(), 4);
        CHECK.due("forget again", x.forget(), 0);
        CHECK.due("count", x.count(2), 0);
        CHECK.due("hears anew", x.hears(5, 1), 1);
    }

    private static void whose() {
        TemperNurses x = Check.told("t10 0 0;t20 1 0;t30 0 0;t40 0 0;n9 3 99;");
        CHECK.due("nothing heard", x.whose(), 15);
        x.hears(20, 1);
        CHECK.due("20 or more", x.whose(), 14);
        x.hears(40, 0);
        CHECK.due("below 40", x.whose(), 6);
        x.hears(21, 1);
        CHECK.due("21 or more", x.whose(), 4);
        x.years(1);
        CHECK.due("by their heats now", x.whose(), 6);
        x.hears(10, 0);
        CHECK.due("none", x.whose(), 0);
        x.forget();
        CHECK.due("all again", x.whose(), 15);
        x.hears(0, 0);
        CHECK.due("all bang at 0", x.whose(), 0);
    }

    private static void ask() {
        CHECK.due("halves", Check.told("t10 0 0;t20 0 0;t30 0 0;t40 0 0;").ask(), 21);
        CHECK.due("of several the least", Check.told("t10 0 0;t20 0 0;t30 0 0;").ask(), 11);
        CHECK.due("alike ones", Check.told("t10 0 0;t10 0 0;").ask(), -9);
        CHECK.due("one", Check.told("t10 0 0;").ask(), -9);
        CHECK.due("some alike", Check.told("t10 0 0;t10 0 0;t10 0 0;t9 0 0;").ask(), 10);
        TemperNurses x = Check.told("t10 0 0;t20 1 0;t30 0 0;t40 0 0;n9 3 99;");
        x.hears(25, 1);
        CHECK.due("of those that are left", x.ask(), 31);
        x.hears(31, 1);
        CHECK.due("one left", x.ask(), -9);
        x.hears(31, 0);
        CHECK.due("none left", x.ask(), -9);
        TemperNurses y = Check.told("t1 0 0;t60 5 0;t60 5 0;n1 1 9;");
        y.sends(0, 0);
        y.years(9);
        CHECK.due("a broken one", y.ask(), 1);
        TemperNurses z = Check.told("t58 5 0;t60 5 0;");
        z.years(8);
        CHECK.due("98 and 99", z.ask(), 99);
        z.years(1);
        CHECK.due("99 and 99", z.ask(), -9);
    }
}
