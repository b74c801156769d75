/** The edges of part 1 (the text and FAULT) and of promises 1 to 4. */
public final class TextEdgesTest {
    private static final Check CHECK = new Check("TextEdgesTest");
    private static final String TEMPER = "t1 0 0;", NURSE = "n1 1 1;";
    private static final String SIX = TEMPER.repeat(6), FOUR = NURSE.repeat(4);
    private static final String FULL_TEXT = SIX + FOUR + "x0 1;".repeat(10);

    public static void main(String[] args) {
        newObject();
        temperBounds();
        nurseBounds();
        sixTempers();
        fourNurses();
        clashOfA();
        clashOfB();
        clashIsOfBoth();
        bytes();
        hundredAndTwentyBytes();
        clear();
        blanks();
        byteThatBeginsAText();
        byteBehindAnItem();
        byteForANumber();
        byteBehindANumber();
        byteForTheEnd();
        lettersSideBySide();
        firstOfTwoFaults();
        numbersThatAreNone();
        endsTooEarly();
        itemsThatEndEarly();
        items();
        faultLeavesTheText();
        CHECK.end();
    }

    private static void newObject() {
        CHECK.sentence("As told; no TEMPERS, no NURSES");
        TemperNurses x = new TemperNurses();
        for (int what = 0; what <= 4; what++) CHECK.due("count " + what, x.count(what), 0);
        for (int what = 0; what <= 4; what++) CHECK.due("now " + what, x.now(what), 0);
        for (int what = 0; what <= 6; what++) CHECK.due("temper 0 " + what, x.temper(0, what), -1);
        for (int what = 0; what <= 4; what++) CHECK.due("nurse 0 " + what, x.nurse(0, what), -1);
        CHECK.due("sends", x.sends(0, 0), -1);
        CHECK.due("fetches", x.fetches(0), -1);
        CHECK.due("visits", x.visits(0), -1);
        CHECK.due("mixes", x.mixes(0, 1), -1);
        CHECK.due("when", x.when(0, 0), -1);
        CHECK.due("hot", x.hot(0, 0), -1);
        CHECK.due("plan(0)", x.plan(0), -1);
        CHECK.due("plan(-1)", x.plan(-1), 0);
        CHECK.due("best", x.best(0, 0), -1000000);
        CHECK.due("beds(198, 0)", x.beds(198, 0), -1);
        CHECK.due("beds(198, -1)", x.beds(198, -1), 0);
        CHECK.due("odds, upper", x.odds(10, 0, 0), 1);
        CHECK.due("odds, lower", x.odds(10, 0, 1), 1);
        CHECK.due("forget", x.forget(), 0);
        CHECK.due("whose", x.whose(), 0);
        CHECK.due("ask", x.ask(), -9);
        CHECK.due("mark", x.mark(0, 0), -1000000);
        CHECK.due("back(0)", x.back(0), -2);
        CHECK.due("back(1)", x.back(1), -2);
        CHECK.due("undo", x.undo(), -2);
        CHECK.due("clear", x.clear(), 0);
        CHECK.due("trace", x.trace(), 0);
    }

    private static void temperBounds() {
        CHECK.sentence("HEAT (1 .. 60)");
        everyNumber("t", " 0 0;", 1, 60, 1);
        for (int heat = 1; heat <= 60; heat++) CHECK.due("heat", Check.told("t" + heat + " 0 0;").temper(0, 0), heat);
        CHECK.sentence("GROWS (0 .. 5)");
        everyNumber("t1 ", " 0;", 0, 5, 1);
        for (int grows = 0; grows <= 5; grows++) CHECK.due("grows", Check.told("t1 " + grows + " 0;").temper(0, 1), grows);
        CHECK.sentence("DUE (0 .. 40)");
        everyNumber("t1 0 ", ";", 0, 40, 1);
        for (int due = 0; due <= 40; due++) CHECK.due("due", Check.told("t1 0 " + due + ";").temper(0, 2), due);
    }

    private static void nurseBounds() {
        CHECK.sentence("TAMES (1 .. 9)");
        everyNumber("n", " 1 1;", 1, 9, 1);
        for (int tames = 1; tames <= 9; tames++) CHECK.due("tames", Check.told("n" + tames + " 1 1;").nurse(0, 0), tames);
        CHECK.sentence("ROOM (1 .. 3)");
        everyNumber("n1 ", " 1;", 1, 3, 1);
        for (int room = 1; room <= 3; room++) CHECK.due("room", Check.told("n1 " + room + " 1;").nurse(0, 1), room);
        CHECK.sentence("HOLDS (1 .. 99)");
        everyNumber("n1 1 ", ";", 1, 99, 1);
        for (int holds = 1; holds <= 99; holds++) CHECK.due("holds", Check.told("n1 1 " + holds + ";").nurse(0, 2), holds);
    }

    private static void sixTempers() {
        CHECK.sentence("TEMPERS 0 .. (6 at most); a seventh TEMPER");
        for (int told = 0; told <= 6; told++) {
            TemperNurses x = Check.told(TEMPER.repeat(told));
            CHECK.due(told + " tempers", x.count(0), told);
            CHECK.due("the last of " + told, x.temper(told - 1, 0), told == 0 ? -1 : 1);
            CHECK.due("one beyond " + told, x.temper(told, 0), -1);
        }
        fault(SIX + TEMPER, 42);
        fault(SIX + "t", 42);
        fault(SIX + "   t1 0 0;", 45);
        fault(SIX + FOUR + TEMPER, 70);
        read(SIX + NURSE + "x5 0;", 8);
        read(NURSE + SIX, 7);
    }

    private static void fourNurses() {
        CHECK.sentence("NURSES 0 .. (4 at most); a fifth NURSE");
        for (int told = 0; told <= 4; told++) {
            TemperNurses x = Check.told(NURSE.repeat(told));
            CHECK.due(told + " nurses", x.count(1), told);
            CHECK.due("the last of " + told, x.nurse(told - 1, 0), told == 0 ? -1 : 1);
            CHECK.due("one beyond " + told, x.nurse(told, 0), -1);
        }
        fault(FOUR + NURSE, 28);
        fault(FOUR + "n", 28);
        fault(FOUR + SIX + " n1 1 1;", 71);
        read(FOUR + TEMPER + TEMPER + "x1 0;", 7);
    }

    private static void clashOfA() {
        CHECK.sentence("x A B (two unlike TEMPERS told ahead CLASH): A");
        fault("x0 1;", 1);
        fault("x0 1;" + TEMPER + TEMPER, 1);
        fault(NURSE + NURSE + "x0 1;", 15);
        for (int told = 2; told <= 6; told++) {
            String ahead = TEMPER.repeat(told) + "x";
            for (int a = 0; a <= 130; a++) {
                String text = ahead + a + (a == 0 ? " 1;" : " 0;");
                CHECK.due("hill of '" + text + "'", Check.read(text), a < told ? told + 1 : -10 - ahead.length());
            }
        }
    }

    private static void clashOfB() {
        CHECK.sentence("x A B (two unlike TEMPERS told ahead CLASH): B; B that is A");
        fault(TEMPER + "x0 0;", 10);
        fault(TEMPER + "x0 1;" + TEMPER, 10);
        fault(TEMPER + NURSE + NURSE + "x0 1;", 24);
        for (int told = 1; told <= 6; told++) {
            for (int a = 0; a < told; a++) {
                String ahead = TEMPER.repeat(told) + "x" + a + " ";
                for (int b = 0; b <= 130; b++) {
                    boolean right = b < told && b != a;
                    String text = ahead + b + ";";
                    CHECK.due("hill of '" + text + "'", Check.read(text), right ? told + 1 : -10 - ahead.length());
                }
            }
        }
    }

    private static void clashIsOfBoth() {
        CHECK.sentence("CLASHES: some two TEMPERS");
        TemperNurses x = Check.told(SIX + "x0 5;x5 0;x3 5;");
        int[] bits = {32, 0, 0, 32, 0, 9};
        for (int t = 0; t < 6; t++) CHECK.due("clashes of " + t, x.temper(t, 5), bits[t]);
        StringBuilder all = new StringBuilder("t1 0 0;".repeat(5));
        for (int a = 0; a < 5; a++) for (int b = a + 1; b < 5; b++) all.append("x").append(b).append(" ").append(a).append(";");
        TemperNurses y = Check.told(all.toString());
        for (int t = 0; t < 5; t++) CHECK.due("all clash, " + t, y.temper(t, 5), 31 - (1 << t));
        CHECK.due("none clashes", Check.told(SIX).temper(0, 5), 0);
    }

    private static void bytes() {
        CHECK.sentence("A byte (0 .. 255) comes to THE TEXT: how many it has. BAD");
        TemperNurses x = new TemperNurses();
        for (int c = 0; c <= 119; c++) CHECK.due("type " + c, x.type(c), c + 1);
        x.clear();
        for (int c = 120; c <= 239; c++) CHECK.due("type " + c, x.type(c), c - 119);
        x.clear();
        for (int c = 240; c <= 255; c++) CHECK.due("type " + c, x.type(c), c - 239);
        CHECK.due("type(-1)", x.type(-1), -1);
        CHECK.due("type(256)", x.type(256), -1);
        CHECK.due("type('t' + 256)", x.type('t' + 256), -1);
        CHECK.due("type('t' - 256)", x.type('t' - 256), -1);
        CHECK.due("refused ones did not come", x.count(4), 16);
    }

    private static void hundredAndTwentyBytes() {
        CHECK.sentence("a text (120 bytes at most); FULL");
        TemperNurses x = new TemperNurses();
        for (int i = 1; i <= 119; i++) CHECK.due("type " + i, x.type(FULL_TEXT.charAt(i - 1)), i);
        CHECK.due("119 bytes end too early", x.hill(), -129);
        CHECK.due("type 120", x.type(';'), 120);
        CHECK.due("type 121", x.type(';'), -3);
        CHECK.due("type 121, no byte", x.type(256), -1);
        CHECK.due("type 121, no byte", x.type(-1), -1);
        CHECK.due("it has 120", x.count(4), 120);
        CHECK.due("all 120 are read, the refused one is not", x.hill(), 20);
        CHECK.due("it is empty then", x.count(4), 0);
        CHECK.due("there is room again", x.type('t'), 1);
        TemperNurses y = new TemperNurses();
        Check.typeAll(y, " " + FULL_TEXT);
        CHECK.due("the last ; found no room", y.hill(), -130);
        CHECK.due("it stays full", y.type(';'), -3);
    }

    private static void clear() {
        CHECK.sentence("THE TEXT is empty: how many bytes it had");
        TemperNurses x = new TemperNurses();
        CHECK.due("none", x.clear(), 0);
        x.type('t');
        CHECK.due("one", x.clear(), 1);
        CHECK.due("none again", x.clear(), 0);
        Check.typeAll(x, FULL_TEXT);
        CHECK.due("full", x.clear(), 120);
        CHECK.due("empty", x.count(4), 0);
        Check.typeAll(x, NURSE);
        CHECK.due("nothing of what was is read", x.hill(), 1);
        CHECK.due("no tempers", x.count(0), 0);
        clearedAhead("n1 1 999", "n1 1 9", -16);
        clearedAhead("n1 1 9;;", "n1 1 9", -16);
        clearedAhead("tttttttt", "t", -11);
        clearedAhead("n1 1 9;;", "n1 1 9;", 1);
        clearedAhead("????????", "    ", 0);
    }

    /** A text behind one that was longer: what stood behind its end is not read. */
    private static void clearedAhead(String longer, String text, int due) {
        TemperNurses x = new TemperNurses();
        Check.typeAll(x, longer);
        x.clear();
        Check.typeAll(x, text);
        CHECK.due("hill of '" + text + "' behind '" + longer + "'", x.hill(), due);
    }

    private static void blanks() {
        CHECK.sentence("blanks (32) between TOKENS");
        read("   t   1   0   0   ;   ", 1);
        read("t1 0 0;n1 1 1;", 2);
        read(" ".repeat(113) + TEMPER, 1);
        fault("t6 0 0 0;", 7);
        fault("t1 0 0", 6);
        fault("t 60 0;", 6);
        fault("t6000;", 1);
        for (int c : new int[] {0, 9, 10, 11, 12, 13, 31, 33, 160}) fault("t1" + (char) c + "0 0;", 2);
    }

    private static void byteThatBeginsAText() {
        CHECK.sentence("TOKENS are letters a .. z side by side, NUMBERS and ; at the text's begin");
        for (int c = 0; c <= 255; c++) {
            String text = (char) c + "1 0 0;";
            switch (c) {
                case 't' -> read(text, 1);
                case 'n' -> fault(text, 3);
                case 'x', ' ' -> fault(text, 1);
                default -> fault(text, 0);
            }
        }
    }

    private static void byteBehindAnItem() {
        CHECK.sentence("TOKENS are letters a .. z side by side, NUMBERS and ; behind an ITEM");
        for (int c = 0; c <= 255; c++) {
            String text = TEMPER + (char) c;
            switch (c) {
                case 't', 'n', 'x' -> fault(text, 8);
                case ' ' -> read(text, 1);
                default -> fault(text, 7);
            }
        }
    }

    private static void byteForANumber() {
        CHECK.sentence("TOKENS are letters a .. z side by side, NUMBERS and ; for a NUMBER");
        for (int c = 0; c <= 255; c++) {
            String text = "t" + (char) c + " 0 0;";
            if (c >= '1' && c <= '9') read(text, 1);
            else if (c >= 'a' && c <= 'z') fault(text, 0);
            else if (c == ' ') fault(text, 3);
            else fault(text, 1);
        }
    }

    private static void byteBehindANumber() {
        CHECK.sentence("TOKENS are letters a .. z side by side, NUMBERS and ; behind a NUMBER");
        for (int c = 0; c <= 255; c++) {
            String text = "t5" + (char) c + " 0 0;";
            if (c >= '0' && c <= '9' || c == ' ') read(text, 1);
            else fault(text, 2);
        }
    }

    private static void byteForTheEnd() {
        CHECK.sentence("ITEMS, each letters and what is told, ended by ;");
        for (int c = 0; c <= 255; c++) {
            String text = "t1 0 0" + (char) c;
            if (c == ';') read(text, 1);
            else if (c == ' ') fault(text, 7);
            else if (c >= '0' && c <= '9') fault(text, 5);
            else fault(text, 6);
        }
        fault(";", 0);
        fault(TEMPER + ";", 7);
        fault("t;", 1);
        fault("t1;", 2);
        fault("t1 0;", 4);
        fault("t1 0 0 0;", 7);
        fault("n1 1 1 1;", 7);
        fault("x;", 1);
        fault(TEMPER + TEMPER + "x0;", 16);
        fault(TEMPER + TEMPER + "x0 1 1;", 19);
    }

    private static void lettersSideBySide() {
        CHECK.sentence("letters that begin no ITEM");
        for (char a = 'a'; a <= 'z'; a++) {
            if (a != 't' && a != 'n' && a != 'x') fault(a + "1 1 1;", 0);
            for (char b = 'a'; b <= 'z'; b++) fault("" + a + b + "1 1 1;", 0);
        }
        fault(TEMPER + "ttt1 0 0;", 7);
        fault("t t1 0 0;", 2);
        fault("T1 0 0;", 0);
    }

    private static void firstOfTwoFaults() {
        CHECK.sentence("the first byte of the first TOKEN that can't stand there");
        fault("t0 6 41;", 1);
        fault("t1 6 41;", 3);
        fault("t1 5 41;", 5);
        fault("t  61  6 41", 3);
        fault("n1 4 100", 3);
        fault("? t0", 0);
        fault("t0 ?", 1);
        fault("t61", 1);
        fault(TEMPER + "x9 9;", 8);
    }

    private static void numbersThatAreNone() {
        CHECK.sentence("a NUMBER above 99 or with a 0 ahead of others, that TOKEN's");
        read("n1 1 99;", 1);
        for (int v = 100; v <= 10100; v++) fault("n1 1 " + v + ";", 5);
        for (int v = 0; v <= 999; v++) fault("n1 1 0" + v + ";", 5);
        fault("n1 1 099;", 5);
        fault("n1 1 01;", 5);
        fault("t1 00 0;", 3);
        fault("t1 0 00;", 5);
        fault("t1 0 05;", 5);
        fault("n1 1 4294967297;", 5);
        fault("n1 1 2147483648;", 5);
        fault("n1 1 18446744073709551617;", 5);
        fault("n1 1 " + "1".repeat(114) + ";", 5);
        fault("n1 1 " + "9".repeat(114) + ";", 5);
        fault("n1 1 " + "0".repeat(115), 5);
        fault("t1 0 0 100;", 7);
        fault("t1 0 0 007;", 7);
        fault("100;", 0);
        fault("00;", 0);
        fault("t1 0 100", 5);
    }

    private static void endsTooEarly() {
        CHECK.sentence("the text's length, if it ends too early");
        String text = "t60 5 40;t1 0 0;n9 3 99;x0 1; t 7 1 2 ; ";
        int items = 0;
        for (int cut = 0; cut <= text.length(); cut++) {
            String part = text.substring(0, cut);
            if (part.endsWith(";")) items++;
            boolean whole = part.isBlank() || part.strip().endsWith(";");
            CHECK.due("hill of '" + part + "'", Check.read(part), whole ? items : -10 - cut);
            CHECK.due("hill of '" + part + "   '", Check.read(part + "   "), whole ? items : -13 - cut);
        }
    }

    private static void itemsThatEndEarly() {
        CHECK.sentence("the text's length, if it ends too early (120)");
        fault(" ".repeat(119) + "t", 120);
        fault("t" + " ".repeat(119), 120);
        fault(" ".repeat(114) + "t1 0 0", 120);
        fault(" ".repeat(119) + "7", 119);
    }

    private static void items() {
        CHECK.sentence("THE TEXT tells all, and is empty then: how many ITEMS");
        read("", 0);
        read(" ", 0);
        read(" ".repeat(120), 0);
        read(TEMPER, 1);
        read(FULL_TEXT, 20);
        TemperNurses x = Check.told(FULL_TEXT);
        CHECK.due("a second hill() of the same text tells nothing", x.hill(), 0);
        CHECK.due("so there are no tempers", x.count(0), 0);
        CHECK.due("and no nurses", x.count(1), 0);
    }

    private static void faultLeavesTheText() {
        CHECK.sentence("-10 less FAULT: nothing changes");
        TemperNurses x = new TemperNurses();
        Check.typeAll(x, "t1 0 0");
        CHECK.due("too early", x.hill(), -16);
        CHECK.due("once more", x.hill(), -16);
        CHECK.due("no temper", x.count(0), 0);
        CHECK.due("the text stays", x.type(';'), 7);
        CHECK.due("mended", x.hill(), 1);
        CHECK.due("one temper", x.count(0), 1);
    }

    /** All numbers 0 .. 130 in one place: those that are allowed are read, the others are the FAULT. */
    private static void everyNumber(String ahead, String behind, int least, int most, int items) {
        for (int v = 0; v <= 130; v++) {
            if (v >= least && v <= most) read(ahead + v + behind, items);
            else fault(ahead + v + behind, ahead.length());
        }
    }

    private static void read(String text, int items) {
        CHECK.due("hill of '" + text + "'", Check.read(text), items);
    }

    private static void fault(String text, int place) {
        CHECK.due("hill of '" + text + "'", Check.read(text), -10 - place);
    }
}
