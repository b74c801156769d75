import java.util.function.Supplier;

/** Objects in unlike states, each made in the same way as often as it is asked for. */
enum Worlds implements Supplier<TemperNurses> {
    /** Nothing is told. */
    NEW(0, 0) {
        public TemperNurses get() {
            return new TemperNurses();
        }
    },
    /** Nurses alone, and a text that is no whole one. */
    NURSES(0, 4) {
        public TemperNurses get() {
            TemperNurses x = Check.told("n1 1 1;n2 2 2;n3 3 3;n9 3 99;");
            Check.typeAll(x, "t9 0");
            x.years(2);
            return x;
        }
    },
    /** Told, and nothing done; the text that waits is a whole one. */
    TOLD(2, 1) {
        public TemperNurses get() {
            TemperNurses x = Check.told("t10 2 5;t6 0 3;n4 2 15;x0 1;");
            Check.typeAll(x, "n1 1 1;t5 5 5;");
            return x;
        }
    },
    /** Some of all is done: 0 and 1 are with nurse 0, 2 with 1, 4 is broken and at home, 3 is at home. */
    BUSY(5, 3) {
        public TemperNurses get() {
            TemperNurses x = Check.told("t10 2 5;t6 0 3;t20 1 9;t30 5 0;t1 0 0;n4 2 15;n6 1 30;n2 1 8;x0 2;x1 3;");
            x.sends(4, 0);
            x.visits(4);
            x.fetches(4);
            x.sends(0, 0);
            x.keep(1);
            x.sends(1, 0);
            x.sends(2, 1);
            x.mixes(1, 3);
            x.years(1);
            x.mixes(3, 4);
            x.hears(5, 1);
            x.hears(33, 0);
            x.mark(4, 2);
            Check.typeAll(x, "t1 0 0;x");
            return x;
        }
    },
    /** All is full: tempers, nurses, years, what may be undone, what was heard, the text, both images. */
    BRIM(6, 4) {
        public TemperNurses get() {
            TemperNurses x = Check.told("t60 5 40;t60 0 0;t9 4 0;t8 3 9;t1 5 0;t7 1 1;n9 3 99;n1 1 9;n3 1 9;n2 1 1;x0 1;x4 5;");
            x.sends(4, 1);
            x.visits(4);
            x.keep(0);
            for (int i = 0; i < 11; i++) x.years(9);
            x.sends(0, 0);
            x.sends(5, 0);
            x.mixes(0, 3);
            x.keep(1);
            x.sends(2, 0);
            for (int i = 0; i < 4; i++) x.hears(20 * i, 1);
            for (int i = 0; i < 120; i++) x.type(i == 119 ? 't' : ' ');
            return x;
        }
    };

    final int tempers, nurses;

    Worlds(int tempers, int nurses) {
        this.tempers = tempers;
        this.nurses = nurses;
    }
}
