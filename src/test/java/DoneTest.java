/** Promises 7 to 13: sends, fetches, visits, mixes, years, undo, now. */
public final class DoneTest {
    private static final Check CHECK = new Check("DoneTest");

    public static void main(String[] args) {
        sends();
        fetches();
        visits();
        mixes();
        years();
        undo();
        undoKnowsTen();
        now();
        soonest();
        CHECK.end();
    }

    private static void sends() {
        TemperNurses x = Check.told("t10 0 0;t11 0 0;t10 0 0;t1 0 0;n1 2 10;n1 1 99;x0 3;");
        CHECK.due("sends(-1, 0)", x.sends(-1, 0), -1);
        CHECK.due("sends(4, 0)", x.sends(4, 0), -1);
        CHECK.due("sends(0, -1)", x.sends(0, -1), -1);
        CHECK.due("sends(0, 2)", x.sends(0, 2), -1);
        CHECK.due("as hot as she holds", x.sends(0, 0), 1);
        CHECK.due("is there", x.sends(0, 0), -2);
        CHECK.due("too hot", x.sends(1, 0), -2);
        CHECK.due("clashes", x.sends(3, 0), -2);
        CHECK.due("second", x.sends(2, 0), 2);
        CHECK.due("to her who holds it", x.sends(1, 1), 1);
        CHECK.due("no room there", x.sends(2, 1), -2);
        CHECK.due("refused ones are not to be undone", x.count(3), 3);
        x.fetches(1);
        CHECK.due("from another nurse", x.sends(0, 1), 1);
        CHECK.due("she has one less", x.nurse(0, 3), 4);
        CHECK.due("its clash is gone", x.sends(3, 0), 2);
    }

    private static void fetches() {
        TemperNurses x = Check.told("t10 0 0;n1 2 10;n1 1 99;");
        CHECK.due("fetches(-1)", x.fetches(-1), -1);
        CHECK.due("fetches(1)", x.fetches(1), -1);
        CHECK.due("at home", x.fetches(0), -2);
        x.sends(0, 1);
        CHECK.due("fetched", x.fetches(0), 1);
        CHECK.due("is at home", x.temper(0, 3), -9);
        CHECK.due("at home again", x.fetches(0), -2);
        CHECK.due("to be undone", x.count(3), 2);
    }

    private static void visits() {
        TemperNurses x = Check.told("t2 5 0;n1 1 9;");
        CHECK.due("visits(-1)", x.visits(-1), -1);
        CHECK.due("visits(1)", x.visits(1), -1);
        CHECK.due("at home", x.visits(0), -2);
        x.sends(0, 0);
        CHECK.due("first", x.visits(0), 1);
        CHECK.due("second", x.visits(0), 0);
        CHECK.due("broken", x.visits(0), -2);
        CHECK.due("to be undone", x.count(3), 3);
        x.years(9);
        CHECK.due("stays broken", x.temper(0, 0), 0);
        x.fetches(0);
        x.years(9);
        CHECK.due("stays broken at home", x.temper(0, 0), 0);
    }

    private static void mixes() {
        TemperNurses x = Check.told("t1 0 0;t1 0 0;t1 0 0;t1 0 0;");
        CHECK.due("mixes(0, 0)", x.mixes(0, 0), -1);
        CHECK.due("mixes(-1, 0)", x.mixes(-1, 0), -1);
        CHECK.due("mixes(0, 4)", x.mixes(0, 4), -1);
        CHECK.due("none is to be undone", x.count(3), 0);
        CHECK.due("mixes(0, 1)", x.mixes(0, 1), 1);
        CHECK.due("mixes(2, 3)", x.mixes(2, 3), 2);
        CHECK.due("mixes(0, 2)", x.mixes(0, 2), 3);
        CHECK.due("ring of all", x.temper(1, 6), 4);
        int[] owners = {3, 0, 1, 2};
        for (int t = 0; t < 4; t++) CHECK.due("owner of " + t, x.temper(t, 4), owners[t]);
        CHECK.due("back to two rings", x.mixes(0, 2), 2);
    }

    private static void years() {
        TemperNurses x = Check.told("t60 5 0;t5 3 0;t5 5 0;t9 0 0;n4 3 99;");
        CHECK.due("years(0)", x.years(0), -1);
        CHECK.due("years(10)", x.years(10), -1);
        CHECK.due("years(-1)", x.years(-1), -1);
        x.sends(1, 0);
        x.sends(2, 0);
        x.sends(3, 0);
        CHECK.due("years(3)", x.years(3), 1);
        int[] heats = {75, 2, 8, 0};
        for (int t = 0; t < 4; t++) CHECK.due("heat of " + t, x.temper(t, 0), heats[t]);
        CHECK.due("years(9)", x.years(9), 2);
        CHECK.due("99 at most", x.temper(0, 0), 99);
        CHECK.due("grows more than it is tamed", x.temper(2, 0), 17);
        for (int i = 0; i < 9; i++) x.years(9);
        CHECK.due("year", x.now(0), 93);
        CHECK.due("grows to 99, then is tamed", x.temper(2, 0), 95);
        CHECK.due("beyond 99", x.years(7), -2);
        CHECK.due("BAD comes ahead of STATE", x.years(10), -1);
        CHECK.due("to 99", x.years(6), 2);
        CHECK.due("one more", x.years(1), -2);
    }

    private static void undo() {
        TemperNurses x = Check.told("t9 2 0;t5 0 0;n4 2 20;n2 1 20;");
        CHECK.due("none", x.undo(), -2);
        x.sends(0, 0);
        x.sends(0, 1);
        x.visits(0);
        x.mixes(0, 1);
        x.years(3);
        x.fetches(0);
        x.hears(3, 1);
        CHECK.due("undo fetches", x.undo(), 5);
        CHECK.due("is with 1", x.temper(0, 3), 1);
        CHECK.due("undo years", x.undo(), 4);
        CHECK.due("year", x.now(0), 0);
        CHECK.due("heat", x.temper(0, 0), 8);
        CHECK.due("undo mixes", x.undo(), 3);
        CHECK.due("owner", x.temper(0, 4), 0);
        CHECK.due("undo visits", x.undo(), 2);
        CHECK.due("heat", x.temper(0, 0), 9);
        CHECK.due("undo sends", x.undo(), 1);
        CHECK.due("is with 0", x.temper(0, 3), 0);
        CHECK.due("undo sends", x.undo(), 0);
        CHECK.due("is at home", x.temper(0, 3), -9);
        CHECK.due("none", x.undo(), -2);
        CHECK.due("what was heard stays", x.count(2), 1);
    }

    private static void undoKnowsTen() {
        TemperNurses x = Check.told("t60 0 0;n4 2 60;");
        x.sends(0, 0);
        for (int i = 0; i < 12; i++) x.visits(0);
        CHECK.due("ten are known", x.count(3), 10);
        for (int left = 9; left >= 0; left--) {
            CHECK.due("undo", x.undo(), left);
            CHECK.due("heat", x.temper(0, 0), 57 - left + 1);
        }
        CHECK.due("older ones are lost", x.undo(), -2);
        CHECK.due("heat", x.temper(0, 0), 58);
        x.visits(0);
        CHECK.due("one is known", x.undo(), 0);
        CHECK.due("heat", x.temper(0, 0), 58);
    }

    private static void now() {
        TemperNurses x = Check.told("t1 0 0;t5 2 0;t9 0 0;n9 1 99;");
        x.sends(0, 0);
        x.years(2);
        x.mixes(1, 2);
        CHECK.due("the year", x.now(0), 2);
        CHECK.due("broken", x.now(1), 1);
        CHECK.due("right", x.now(2), 1);
        CHECK.due("heats", x.now(4), 18);
        CHECK.due("now(-1)", x.now(-1), -1);
        CHECK.due("now(5)", x.now(5), -1);
    }

    private static void soonest() {
        CHECK.due("one", Check.told("t10 0 0;n3 1 99;").now(3), 4);
        CHECK.due("the slower takes the cooler", Check.told("t10 0 0;t20 0 0;n2 1 99;n5 1 99;").now(3), 5);
        CHECK.due("no room", Check.told("t10 0 0;t10 0 0;n9 1 99;").now(3), -9);
        CHECK.due("clash", Check.told("t10 0 0;t10 0 0;n9 2 99;x0 1;").now(3), -9);
        CHECK.due("none holds it", Check.told("t10 0 0;n9 2 9;").now(3), -9);
        CHECK.due("grows as it is tamed", Check.told("t10 3 0;n3 2 99;").now(3), -9);
        CHECK.due("no nurses", Check.told("t10 3 0;").now(3), -9);
        CHECK.due("no tempers", Check.told("n3 2 99;").now(3), 0);
        TemperNurses x = Check.told("t1 0 0;t7 0 0;n1 1 9;x0 1;");
        CHECK.due("no room for both", x.now(3), -9);
        x.sends(0, 0);
        x.years(1);
        CHECK.due("a broken one may be at home, wherever it is", x.now(3), 7);
        TemperNurses y = Check.told("t60 0 0;n1 1 99;");
        y.years(9);
        CHECK.due("60 years", y.now(3), 60);
        TemperNurses z = Check.told("t60 5 0;n6 1 99;");
        z.years(9);
        CHECK.due("from 99, 6 are tamed off in the first year, 1 in each later one", z.when(0, 0), 94);
        CHECK.due("94 years", z.now(3), 94);
    }
}
