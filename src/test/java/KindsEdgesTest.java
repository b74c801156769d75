/** The edges of part 4: KINDS, MARK, THE TRACE, IMAGES, reading anew; promises 24 to 28. */
public final class KindsEdgesTest {
    private static final Check CHECK = new Check("KindsEdgesTest");
    private static final long[] TRACES = {1, 11, 101, 1011, 10101, 100001};

    public static void main(String[] args) {
        marksOfEachKind();
        marksBelowNought();
        greatestMarks();
        marksOfTheYearAndNumber();
        traces();
        traceOfRefused();
        traceStays();
        twoImages();
        imageRefused();
        imageKeepsAll();
        imageKeepsNothingElse();
        imageOfTenToBeUndone();
        imageStays();
        keptAnew();
        imageOfANewObject();
        readAnew();
        readAnewAtTheLastYear();
        readAnewIsAsNew();
        readAnewOfNothing();
        counts();
        CHECK.end();
    }

    private static void marksOfEachKind() {
        CHECK.sentence("MARK of one as if of a KIND");
        TemperNurses x = Check.told("t9 2 0;t1 0 0;t30 4 0;n9 1 9;");
        int[] atFirst = {30, 34, 30, 68, 32, 30};
        for (int kind = 0; kind < 6; kind++) CHECK.due("mark " + kind, x.mark(kind, 2), atFirst[kind]);
        x.sends(1, 0);
        x.years(3);
        int[] then = {42, 46, 41, 92, 43, 45};
        for (int kind = 0; kind < 6; kind++) CHECK.due("mark " + kind + " in 3", x.mark(kind, 2), then[kind]);
    }

    private static void marksBelowNought() {
        CHECK.sentence("SULK up less how many are BROKEN; GRUDGE up, and its number (below 0: so NO is what none is)");
        TemperNurses x = Check.told("t1 5 0;".repeat(6) + "n9 3 9;n9 3 9;");
        for (int t = 0; t < 6; t++) x.sends(t, t / 3);
        CHECK.due("all are broken", x.years(1), 6);
        for (int t = 0; t < 6; t++) {
            CHECK.due("temper " + t, x.mark(0, t), 0);
            CHECK.due("rage " + t, x.mark(1, t), 5);
            CHECK.due("sulk " + t, x.mark(2, t), -6);
            CHECK.due("storm " + t, x.mark(3, t), 10);
            CHECK.due("grudge " + t, x.mark(4, t), t - 6);
            CHECK.due("pet " + t, x.mark(5, t), 1);
        }
    }

    private static void greatestMarks() {
        CHECK.sentence("MARK at HEAT 99, YEAR 99");
        TemperNurses x = Check.told("t60 5 0;");
        Check.letYearsGoBy(x, 99);
        int[] due = {99, 104, 99, 208, 99, 198};
        for (int kind = 0; kind < 6; kind++) CHECK.due("mark " + kind, x.mark(kind, 0), due[kind]);
    }

    private static void marksOfTheYearAndNumber() {
        CHECK.sentence("GRUDGE up, and its number; PET up, and the YEAR");
        TemperNurses x = Check.told("t7 0 0;".repeat(6));
        for (int t = 0; t < 6; t++) CHECK.due("grudge " + t, x.mark(4, t), 7 + t);
        for (int year = 0; year <= 30; year++) {
            CHECK.due("pet in " + year, x.mark(5, year % 6), 7 + year);
            x.years(1);
        }
    }

    private static void traces() {
        CHECK.sentence("numbers in brackets come to THE TRACE as often as mark() asks that body");
        TemperNurses x = Check.told("t5 1 0;t5 1 0;");
        CHECK.due("at first", x.trace(), 0);
        long due = 0;
        for (int i = 0; i < 30; i++) {
            x.mark(i % 6, i % 2);
            due += TRACES[i % 6];
            CHECK.due("trace of " + i, x.trace(), due);
        }
        CHECK.due("asked again", x.trace(), due);
    }

    private static void traceOfRefused() {
        CHECK.sentence("MARK. NO: BAD (nothing comes to THE TRACE)");
        TemperNurses x = Check.told("t5 1 0;t5 1 0;");
        for (int kind : new int[] {Integer.MIN_VALUE, -1, 0, 5, 6, Integer.MAX_VALUE}) {
            for (int t : new int[] {Integer.MIN_VALUE, -1, 2, 32, Integer.MAX_VALUE}) {
                CHECK.due("mark(" + kind + ", " + t + ")", x.mark(kind, t), -1000000);
            }
        }
        for (int kind : new int[] {-1, 6, 7}) CHECK.due("mark(" + kind + ", 0)", x.mark(kind, 0), -1000000);
        CHECK.due("trace", x.trace(), 0);
        CHECK.due("the last kind, the last temper", x.mark(5, 1), 5);
        CHECK.due("trace", x.trace(), 100001);
    }

    private static void traceStays() {
        CHECK.sentence("THE TRACE (UNDONE, IMAGES and reading anew are not of it)");
        TemperNurses x = Check.told("t5 1 0;n1 1 9;");
        x.keep(0);
        x.sends(0, 0);
        x.mark(4, 0);
        x.undo();
        CHECK.due("undone", x.trace(), 10101);
        x.back(0);
        CHECK.due("back", x.trace(), 10101);
        Check.typeAll(x, "t1 0 0;");
        x.hill();
        CHECK.due("read anew", x.trace(), 10101);
        x.now(3);
        x.best(0, 1);
        CHECK.due("mark() alone asks bodies", x.trace(), 10101);
    }

    private static void twoImages() {
        CHECK.sentence("IMAGES 0, 1: STATE: none was kept");
        TemperNurses x = Check.told("t5 1 0;");
        CHECK.due("back(0)", x.back(0), -2);
        CHECK.due("back(1)", x.back(1), -2);
        x.years(1);
        CHECK.due("keep(1)", x.keep(1), 1);
        CHECK.due("back(0)", x.back(0), -2);
        x.years(1);
        CHECK.due("keep(0)", x.keep(0), 2);
        x.years(1);
        CHECK.due("back(1)", x.back(1), 1);
        CHECK.due("heat", x.temper(0, 0), 6);
        CHECK.due("back(0)", x.back(0), 2);
        CHECK.due("heat", x.temper(0, 0), 7);
    }

    private static void imageRefused() {
        CHECK.sentence("IMAGES 0, 1: BAD");
        TemperNurses x = Check.told("t5 1 0;");
        for (int image : new int[] {Integer.MIN_VALUE, -2, -1, 2, 3, Integer.MAX_VALUE}) {
            CHECK.due("keep(" + image + ")", x.keep(image), -1);
            CHECK.due("back(" + image + ")", x.back(image), -1);
        }
        CHECK.due("none was kept", x.back(0), -2);
        CHECK.due("none was kept", x.back(1), -2);
    }

    private static void imageKeepsAll() {
        CHECK.sentence("IMAGES keep NOW (the YEAR, HEATS, where all are, OWNERS, what may be UNDONE)");
        TemperNurses x = Check.told("t20 1 0;t9 0 0;n4 2 99;n4 2 99;");
        x.sends(0, 0);
        x.mixes(0, 1);
        x.years(3);
        x.keep(0);
        x.sends(0, 1);
        x.sends(1, 0);
        x.mixes(0, 1);
        x.years(9);
        x.visits(1);
        CHECK.due("the year", x.back(0), 3);
        CHECK.due("the year", x.now(0), 3);
        int[][] due = {{11, 0, 1}, {9, -9, 0}};
        for (int t = 0; t < 2; t++) {
            CHECK.due("heat of " + t, x.temper(t, 0), due[t][0]);
            CHECK.due("place of " + t, x.temper(t, 3), due[t][1]);
            CHECK.due("owner of " + t, x.temper(t, 4), due[t][2]);
        }
        CHECK.due("undo years", x.undo(), 2);
        CHECK.due("heat", x.temper(0, 0), 20);
        CHECK.due("undo mixes", x.undo(), 1);
        CHECK.due("owner", x.temper(0, 4), 0);
        CHECK.due("undo sends", x.undo(), 0);
        CHECK.due("place", x.temper(0, 3), -9);
        CHECK.due("none", x.undo(), -2);
    }

    private static void imageKeepsNothingElse() {
        CHECK.sentence("IMAGES keep NOW; nothing else");
        TemperNurses x = Check.told("t20 1 0;");
        x.hears(5, 1);
        x.type('t');
        x.mark(0, 0);
        x.keep(0);
        x.forget();
        x.hears(99, 1);
        x.hears(98, 1);
        Check.typeAll(x, "1 0 0;");
        x.mark(0, 0);
        x.keep(1);
        CHECK.due("back(0)", x.back(0), 0);
        CHECK.due("heard", x.count(2), 2);
        CHECK.due("whose", x.whose(), 0);
        CHECK.due("bytes", x.count(4), 7);
        CHECK.due("trace", x.trace(), 2);
        CHECK.due("the other image", x.back(1), 0);
        CHECK.due("the text", x.hill(), 1);
    }

    private static void imageOfTenToBeUndone() {
        CHECK.sentence("IMAGES keep what may be UNDONE: 10, none");
        TemperNurses x = Check.told("t60 0 0;n1 1 99;");
        x.keep(1);
        x.sends(0, 0);
        for (int i = 0; i < 12; i++) x.visits(0);
        x.keep(0);
        for (int i = 0; i < 15; i++) x.visits(0);
        CHECK.due("back(1)", x.back(1), 0);
        CHECK.due("none may be", x.undo(), -2);
        CHECK.due("at home", x.temper(0, 3), -9);
        CHECK.due("back(0)", x.back(0), 0);
        CHECK.due("ten may be", x.count(3), 10);
        CHECK.due("heat", x.temper(0, 0), 48);
        for (int left = 9; left >= 0; left--) {
            CHECK.due("undo", x.undo(), left);
            CHECK.due("heat", x.temper(0, 0), 58 - left);
        }
        CHECK.due("older ones are lost", x.undo(), -2);
    }

    private static void imageStays() {
        CHECK.sentence("All of that becomes as an IMAGE has it (which stays as it is)");
        TemperNurses x = Check.told("t60 0 0;n1 1 99;");
        x.sends(0, 0);
        x.keep(0);
        for (int i = 0; i < 3; i++) {
            x.visits(0);
            x.years(9);
            x.mixes(0, 0);
            CHECK.due("back", x.back(0), 0);
            CHECK.due("heat", x.temper(0, 0), 60);
            CHECK.due("one may be undone, back() is not to be", x.count(3), 1);
            CHECK.due("undo", x.undo(), 0);
            CHECK.due("at home", x.temper(0, 3), -9);
            x.back(0);
        }
        CHECK.due("keep answers the year", x.keep(0), 0);
    }

    private static void keptAnew() {
        CHECK.sentence("An IMAGE is kept: the YEAR (anew, too)");
        TemperNurses x = Check.told("t60 0 0;");
        CHECK.due("keep", x.keep(0), 0);
        x.years(5);
        CHECK.due("keep anew", x.keep(0), 5);
        x.years(9);
        CHECK.due("back", x.back(0), 5);
        Check.letYearsGoBy(x, 94);
        CHECK.due("keep at 99", x.keep(1), 99);
        x.back(0);
        CHECK.due("back to 99", x.back(1), 99);
        CHECK.due("no year more", x.years(1), -2);
    }

    private static void imageOfANewObject() {
        CHECK.sentence("An IMAGE is kept: of no TEMPERS, too");
        TemperNurses x = new TemperNurses();
        CHECK.due("keep", x.keep(0), 0);
        x.years(4);
        CHECK.due("back", x.back(0), 0);
        CHECK.due("none to be undone", x.undo(), -2);
    }

    private static void readAnew() {
        CHECK.sentence("(Read anew: as told, nothing HEARD or to be UNDONE, IMAGES are gone.)");
        TemperNurses x = Check.told("t9 1 2;t8 1 2;t7 1 2;n9 3 99;n8 3 99;x0 1;x1 2;");
        x.sends(2, 1);
        x.mixes(0, 2);
        x.years(9);
        x.keep(0);
        x.keep(1);
        for (int i = 0; i < 4; i++) x.hears(1, 0);
        Check.typeAll(x, "t3 0 1;t4 0 1;n2 1 5;");
        CHECK.due("hill", x.hill(), 3);
        int[] counts = {2, 1, 0, 0, 0};
        for (int what = 0; what <= 4; what++) CHECK.due("count " + what, x.count(what), counts[what]);
        int[][] tempers = {{3, 0, 1, -9, 0, 0, 1}, {4, 0, 1, -9, 1, 0, 1}};
        for (int t = 0; t < 2; t++) {
            for (int what = 0; what <= 6; what++) CHECK.due("temper " + t + " " + what, x.temper(t, what), tempers[t][what]);
        }
        int[] nurse = {2, 1, 5, 0, 3};
        for (int what = 0; what <= 4; what++) CHECK.due("nurse " + what, x.nurse(0, what), nurse[what]);
        CHECK.due("no third temper", x.temper(2, 0), -1);
        CHECK.due("no second nurse", x.nurse(1, 0), -1);
        CHECK.due("year", x.now(0), 0);
        CHECK.due("undo", x.undo(), -2);
        CHECK.due("image 0", x.back(0), -2);
        CHECK.due("image 1", x.back(1), -2);
        CHECK.due("whose", x.whose(), 3);
    }

    private static void readAnewAtTheLastYear() {
        CHECK.sentence("(Read anew: as told ..) when older ones are lost already");
        TemperNurses x = Check.told("t60 5 0;t1 0 0;n1 2 99;");
        x.sends(1, 0);
        x.mixes(0, 1);
        Check.letYearsGoBy(x, 99);
        CHECK.due("the year", x.now(0), 99);
        Check.typeAll(x, "t60 5 0;t1 0 0;n1 2 99;");
        CHECK.due("hill", x.hill(), 3);
        CHECK.due("the year", x.now(0), 0);
        CHECK.due("heats", x.now(4), 61);
        CHECK.due("right", x.now(2), 0);
        CHECK.due("she has", x.nurse(0, 3), 0);
        CHECK.due("undo", x.undo(), -2);
        CHECK.due("years", x.years(9), 0);
        CHECK.due("undo years", x.undo(), 0);
        CHECK.due("the year", x.now(0), 0);
    }

    /** Nothing is left of a hill that was greater: all that can be seen is as if the text were the first one. */
    private static void readAnewIsAsNew() {
        CHECK.sentence("(Read anew: as told ..) all of it, behind a greater hill");
        for (String text : new String[] {"", "n9 3 99;", "t5 0 0;", "t5 1 7;n9 3 99;", "t5 0 0;t6 0 0;n9 2 9;n1 1 9;x0 1;"}) {
            String anew = Look.at(() -> {
                TemperNurses x = Worlds.BRIM.get();
                x.clear();
                Check.typeAll(x, text);
                x.hill();
                return x;
            });
            CHECK.same("'" + text + "' read anew", anew, Look.at(() -> Check.told(text)));
        }
    }

    private static void readAnewOfNothing() {
        CHECK.sentence("(Read anew: as told ..) by a text that tells nothing, by one that is a FAULT");
        TemperNurses x = Check.told("t9 1 2;n9 3 99;");
        x.sends(0, 0);
        x.keep(0);
        x.type(';');
        CHECK.due("FAULT", x.hill(), -10);
        CHECK.due("the image stays", x.back(0), 0);
        CHECK.due("what may be undone stays", x.count(3), 1);
        x.clear();
        CHECK.due("nothing", x.hill(), 0);
        for (int what = 0; what <= 4; what++) CHECK.due("count " + what, x.count(what), 0);
        CHECK.due("the image is gone", x.back(0), -2);
    }

    private static void counts() {
        CHECK.sentence("0 TEMPERS, 1 NURSES, 2 HEARD, 3 how many may be UNDONE, 4 bytes of THE TEXT. BAD");
        TemperNurses x = Check.told("t9 1 2;".repeat(6) + "n9 3 99;".repeat(4));
        for (int i = 0; i < 6; i++) x.hears(0, 1);
        for (int i = 0; i < 12; i++) x.mixes(0, 1);
        for (int i = 0; i < 125; i++) x.type(' ');
        int[] due = {6, 4, 4, 10, 120};
        for (int what = 0; what <= 4; what++) CHECK.due("count " + what, x.count(what), due[what]);
        CHECK.due("count(-1)", x.count(-1), -1);
        CHECK.due("count(5)", x.count(5), -1);
    }
}
