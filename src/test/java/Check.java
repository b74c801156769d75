/** Counts the calls whose answer is not the one that is due. */
final class Check {
    private final String name;
    private int wrong;
    private int calls;

    Check(String name) {
        this.name = name;
    }

    void due(String call, long got, long want) {
        calls++;
        if (got == want) return;
        wrong++;
        System.out.println(name + ": " + call + " answered " + got + ", due is " + want);
    }

    /** Ends with exit code 1 if an answer was wrong. */
    void end() {
        System.out.println(name + ": " + calls + " answers, " + wrong + " wrong");
        if (wrong != 0) System.exit(1);
    }

    static void typeAll(TemperNurses x, String text) {
        for (int i = 0; i < text.length(); i++) x.type(text.charAt(i));
    }

    /** What hill() answers to a text on a new object. */
    static int read(String text) {
        TemperNurses x = new TemperNurses();
        typeAll(x, text);
        return x.hill();
    }

    static TemperNurses told(String text) {
        TemperNurses x = new TemperNurses();
        typeAll(x, text);
        int answer = x.hill();
        if (answer < 0) throw new IllegalStateException(text + ": hill() answered " + answer);
        return x;
    }
}
