/** Promises 1 to 6: a new object, type, clear, hill, temper, nurse. */
public final class HillTest {
    private static final Check CHECK = new Check("HillTest");

    public static void main(String[] args) {
        newObject();
        typeAndClear();
        hillReads();
        hillFaults();
        hillLeavesAllAtFault();
        hillReadsAnew();
        temper();
        nurse();
        CHECK.end();
    }

    private static void newObject() {
        TemperNurses x = new TemperNurses();
        for (int what = 0; what <= 4; what++) CHECK.due("new count " + what, x.count(what), 0);
        for (int what = 0; what <= 4; what++) CHECK.due("new now " + what, x.now(what), 0);
        CHECK.due("new temper", x.temper(0, 0), -1);
        CHECK.due("new nurse", x.nurse(0, 0), -1);
        CHECK.due("new back", x.back(0), -2);
        CHECK.due("new undo", x.undo(), -2);
        CHECK.due("new whose", x.whose(), 0);
        CHECK.due("new ask", x.ask(), -9);
        CHECK.due("new trace", x.trace(), 0);
    }

    private static void typeAndClear() {
        TemperNurses x = new TemperNurses();
        CHECK.due("type(-1)", x.type(-1), -1);
        CHECK.due("type(256)", x.type(256), -1);
        CHECK.due("type(0)", x.type(0), 1);
        CHECK.due("type(255)", x.type(255), 2);
        CHECK.due("clear", x.clear(), 2);
        CHECK.due("clear again", x.clear(), 0);
        for (int i = 1; i <= 120; i++) CHECK.due("type " + i, x.type(' '), i);
        CHECK.due("type at 120", x.type(' '), -3);
        CHECK.due("BAD comes ahead of FULL", x.type(300), -1);
        CHECK.due("count 4", x.count(4), 120);
        CHECK.due("hill of 120 blanks", x.hill(), 0);
        CHECK.due("text is empty then", x.count(4), 0);
    }

    private static void hillReads() {
        read("", 0);
        read("   ", 0);
        read("t1 0 0;", 1);
        read("  t 60  5 40 ;  ", 1);
        read("n9 3 99;", 1);
        read("n1 1 1;t1 0 0;", 2);
        read("t1 0 0;t1 0 0;x0 1;x1 0;x0 1;", 5);
        read("t1 0 0;t1 0 0;t1 0 0;t1 0 0;t1 0 0;t1 0 0;n1 1 1;n1 1 1;n1 1 1;n1 1 1;", 10);
    }

    private static void hillFaults() {
        fault("t", 1);
        fault("t1", 2);
        fault("t1 0 0", 6);
        fault("t1 0 0  ", 8);
        fault("x", 1);
        fault(";", 0);
        fault("  ;", 2);
        fault("7", 0);
        fault("y1 0 0;", 0);
        fault("tt1 0 0;", 0);
        fault("tn;", 0);
        fault("t t1 0 0;", 2);
        fault("T1 0 0;", 0);
        fault("t-1 0 0;", 1);
        fault("t1,0 0;", 2);
        fault("t1 0 0;\n", 7);
        fault("t1 0 0;" + (char) 255, 7);
        fault("t0 0 0;", 1);
        fault("t61 0 0;", 1);
        fault("t1 6 0;", 3);
        fault("t1 0 41;", 5);
        fault("t1 0 100;", 5);
        fault("t1 0 99999999999999999999;", 5);
        fault("t1 00 0;", 3);
        fault("t01 0 0;", 1);
        fault("t1 0;", 4);
        fault("t1 0 0 0;", 7);
        fault("t1 0 0t1 0 0;", 6);
        fault("t1 0 0;;", 7);
        fault("t1 0a 0;", 4);
        fault("n0 1 1;", 1);
        fault("n10 1 1;", 1);
        fault("n1 0 1;", 3);
        fault("n1 4 1;", 3);
        fault("n1 1 0;", 5);
        fault("n1 1 100;", 5);
        fault("x0 1;t1 0 0;t1 0 0;", 1);
        fault("t1 0 0;x0 1;", 10);
        fault("t1 0 0;x0 0;", 10);
        fault("t1 0 0;t1 0 0;x1 1;", 17);
        fault("t1 0 0;t1 0 0;x0 1 0;", 19);
        fault("t1 0 0;t1 0 0;x0 1", 18);
        fault("100", 0);
        fault("00", 0);
        fault("t1 0 0;t1 0 0;t1 0 0;t1 0 0;t1 0 0;t1 0 0; t1 0 0;", 43);
        fault("n1 1 1;n1 1 1;n1 1 1;n1 1 1;n", 28);
    }

    private static void hillLeavesAllAtFault() {
        TemperNurses x = Check.told("t5 1 2;t7 0 3;n2 1 9;x0 1;");
        x.sends(0, 0);
        x.keep(1);
        x.hears(6, 1);
        Check.typeAll(x, "n1 1 1;t60 5 40;t0");
        CHECK.due("fault", x.hill(), -27);
        CHECK.due("text stays", x.count(4), 18);
        CHECK.due("tempers stay", x.count(0), 2);
        CHECK.due("nurses stay", x.count(1), 1);
        CHECK.due("heard stays", x.count(2), 1);
        CHECK.due("undo stays", x.count(3), 1);
        CHECK.due("heat stays", x.temper(0, 0), 5);
        CHECK.due("clashes stay", x.temper(0, 5), 2);
        CHECK.due("nurse stays", x.nurse(0, 0), 2);
        CHECK.due("image stays", x.back(1), 0);
    }

    private static void hillReadsAnew() {
        TemperNurses x = Check.told("t5 1 2;t7 0 3;n2 2 9;x0 1;");
        x.sends(0, 0);
        x.mixes(0, 1);
        x.years(3);
        x.keep(0);
        x.keep(1);
        x.hears(6, 1);
        x.mark(0, 0);
        Check.typeAll(x, "t8 2 1;t9 0 0;n3 1 4;");
        CHECK.due("hill anew", x.hill(), 3);
        CHECK.due("text is empty", x.count(4), 0);
        CHECK.due("nothing heard", x.count(2), 0);
        CHECK.due("nothing to undo", x.undo(), -2);
        CHECK.due("image 0 is gone", x.back(0), -2);
        CHECK.due("image 1 is gone", x.back(1), -2);
        CHECK.due("year", x.now(0), 0);
        CHECK.due("heat", x.temper(0, 0), 8);
        CHECK.due("home", x.temper(0, 3), -9);
        CHECK.due("owner", x.temper(0, 4), 0);
        CHECK.due("clashes", x.temper(0, 5), 0);
        CHECK.due("tames", x.nurse(0, 0), 3);
        CHECK.due("trace stays", x.trace(), 1);
        CHECK.due("hill of no text", x.hill(), 0);
        CHECK.due("no tempers then", x.count(0), 0);
        CHECK.due("no nurses then", x.count(1), 0);
    }

    private static void temper() {
        TemperNurses x = Check.told("t10 2 5;t6 0 3;t20 1 9;n4 2 15;x0 1;x2 1;");
        int[][] due = {{10, 2, 5, -9, 0, 2, 1}, {6, 0, 3, -9, 1, 5, 1}, {20, 1, 9, -9, 2, 2, 1}};
        for (int t = 0; t < 3; t++) {
            for (int what = 0; what < 7; what++) CHECK.due("temper " + t + " " + what, x.temper(t, what), due[t][what]);
        }
        CHECK.due("temper(-1, 0)", x.temper(-1, 0), -1);
        CHECK.due("temper(3, 0)", x.temper(3, 0), -1);
        CHECK.due("temper(0, -1)", x.temper(0, -1), -1);
        CHECK.due("temper(0, 7)", x.temper(0, 7), -1);
        x.sends(0, 0);
        x.mixes(0, 1);
        CHECK.due("its nurse", x.temper(0, 3), 0);
        CHECK.due("its owner", x.temper(0, 4), 1);
        CHECK.due("ring of 0", x.temper(0, 6), 2);
        CHECK.due("ring of 2", x.temper(2, 6), 1);
        x.mixes(1, 2);
        CHECK.due("ring of 2 in three", x.temper(2, 6), 3);
        CHECK.due("ring of 0 in three", x.temper(0, 6), 3);
    }

    private static void nurse() {
        TemperNurses x = Check.told("t10 2 5;t6 0 3;t20 1 9;t3 0 0;n4 2 15;n9 1 20;x0 1;");
        CHECK.due("tames", x.nurse(0, 0), 4);
        CHECK.due("room", x.nurse(0, 1), 2);
        CHECK.due("holds", x.nurse(0, 2), 15);
        CHECK.due("has none", x.nurse(0, 3), 0);
        CHECK.due("may be sent", x.nurse(0, 4), 11);
        CHECK.due("she holds just that", x.nurse(1, 4), 15);
        x.sends(0, 0);
        CHECK.due("has 0", x.nurse(0, 3), 1);
        CHECK.due("1 clashes, 2 is too hot, 0 is there", x.nurse(0, 4), 8);
        x.sends(3, 0);
        CHECK.due("has 0 and 3", x.nurse(0, 3), 9);
        CHECK.due("no room", x.nurse(0, 4), 0);
        CHECK.due("from another nurse, too", x.nurse(1, 4), 15);
        CHECK.due("nurse(-1, 0)", x.nurse(-1, 0), -1);
        CHECK.due("nurse(2, 0)", x.nurse(2, 0), -1);
        CHECK.due("nurse(0, -1)", x.nurse(0, -1), -1);
        CHECK.due("nurse(0, 5)", x.nurse(0, 5), -1);
    }

    private static void read(String text, int items) {
        CHECK.due("hill of '" + text + "'", Check.read(text), items);
    }

    private static void fault(String text, int place) {
        CHECK.due("hill of '" + text + "'", Check.read(text), -10 - place);
    }
}
