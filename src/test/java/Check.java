/** Counts the calls whose answer is not the one that is due. */
final class Check {
    private final String name;
    private String sentence = "";
    private int wrong;
    private int calls;

    Check(String name) {
        this.name = name;
    }

    /** The document's words that the answers from here on are held against. */
    void sentence(String words) {
        sentence = "\"" + words + "\": ";
    }

    void due(String call, long got, long want) {
        calls++;
        if (got == want) return;
        wrong++;
        System.out.println(name + ": " + sentence + call + " answered " + got + ", due is " + want);
    }

    void same(String call, String got, String want) {
        calls++;
        if (got.equals(want)) return;
        wrong++;
        System.out.println(name + ": " + sentence + call + " left\n  " + got + "\n, due is\n  " + want);
    }

    /** Ends with exit code 1 if an answer was wrong, or if nothing was asked. */
    void end() {
        System.out.println(name + ": " + calls + " answers, " + wrong + " wrong");
        if (wrong != 0 || calls == 0) System.exit(1);
    }

    static void typeAll(TemperNurses x, String text) {
        for (int i = 0; i < text.length(); i++) x.type(text.charAt(i));
    }

    /** What hill() answers to a text on a new object. */
    static int read(String text) {
        TemperNurses x = new TemperNurses();
        typeAll(x, text);
        return x.hill();
    }

    static TemperNurses told(String text) {
        TemperNurses x = new TemperNurses();
        typeAll(x, text);
        int answer = x.hill();
        if (answer < 0) throw new IllegalStateException(text + ": hill() answered " + answer);
        return x;
    }

    /** Years of any number, by calls of nine at most. */
    static void letYearsGoBy(TemperNurses x, int years) {
        for (int left = years; left > 0; left -= 9) {
            int answer = x.years(Math.min(9, left));
            if (answer < 0) throw new IllegalStateException("years() answered " + answer);
        }
    }
}
