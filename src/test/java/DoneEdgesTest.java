import java.util.ArrayDeque;
import java.util.Arrays;
import java.util.HashMap;
import java.util.Map;
import java.util.Queue;

/** The edges of part 2 (what is done, what is UNDONE), of RIGHT and RING, and of promises 5 to 13. */
public final class DoneEdgesTest {
    private static final Check CHECK = new Check("DoneEdgesTest");
    private static final String SIX = "t1 0 0;".repeat(6);

    public static void main(String[] args) {
        atFirst();
        brokenIsOfHeatNought();
        brokenStaysSo();
        whatOfATemper();
        whatOfANurse();
        sheHoldsIt();
        sheHoldsItNow();
        stayingWithoutBeingHeld();
        thereIsRoom();
        noneThatItClashesWith();
        itselfNotCounting();
        sentFromAnotherNurse();
        fetched();
        visited();
        mixedUnlike();
        rightIsTheFewest();
        ringOfATemper();
        yearsACall();
        yearNinetyNine();
        yearsAnswerTheBroken();
        heatGrowsToNinetyNine();
        thenItIsTamed();
        heatFallsToNought();
        undoneWhole();
        tenAreKnown();
        whatIsNotToBeUndone();
        refusedIsNotToBeUndone();
        undoneAtTheLastYear();
        now();
        CHECK.end();
    }

    private static void atFirst() {
        CHECK.sentence("At first all TEMPERS are at HOME, of their HEAT, each OWNER has his own, the YEAR is 0");
        TemperNurses x = Check.told("t1 5 40;t60 0 0;t2 0 0;t3 0 0;t4 0 0;t5 0 0;n1 3 99;");
        atFirst(x, 1, 60, 2, 3, 4, 5);
        x.sends(0, 0);
        x.mixes(0, 5);
        x.years(9);
        Check.typeAll(x, "t60 5 40;t59 0 0;");
        x.hill();
        atFirst(x, 60, 59);
    }

    private static void atFirst(TemperNurses x, int... heats) {
        for (int t = 0; t < heats.length; t++) {
            CHECK.due("heat of " + t, x.temper(t, 0), heats[t]);
            CHECK.due("place of " + t, x.temper(t, 3), -9);
            CHECK.due("owner of " + t, x.temper(t, 4), t);
            CHECK.due("ring of " + t, x.temper(t, 6), 1);
        }
        CHECK.due("year", x.now(0), 0);
        CHECK.due("broken", x.now(1), 0);
        CHECK.due("right", x.now(2), 0);
        CHECK.due("to be undone", x.undo(), -2);
    }

    private static void brokenIsOfHeatNought() {
        CHECK.sentence("A TEMPER of HEAT 0 is BROKEN");
        TemperNurses x = Check.told("t2 0 0;t1 0 0;n1 2 9;");
        x.sends(0, 0);
        x.sends(1, 0);
        CHECK.due("2 and 1", x.now(1), 0);
        x.visits(0);
        CHECK.due("1 and 1", x.now(1), 0);
        x.visits(1);
        CHECK.due("1 and 0", x.now(1), 2);
        CHECK.due("in a year both", x.years(1), 2);
        CHECK.due("0 and 0", x.now(1), 3);
    }

    private static void brokenStaysSo() {
        CHECK.sentence("it stays so");
        TemperNurses x = Check.told("t1 5 0;n1 1 1;n1 1 1;");
        x.sends(0, 0);
        CHECK.due("visited", x.visits(0), 0);
        CHECK.due("with her, who tames less than it grows", x.years(9), 1);
        CHECK.due("heat", x.temper(0, 0), 0);
        CHECK.due("with another", x.sends(0, 1), 1);
        CHECK.due("a year", x.years(1), 1);
        x.fetches(0);
        CHECK.due("at home", x.years(9), 1);
        CHECK.due("heat", x.temper(0, 0), 0);
        CHECK.due("hot in 99", x.hot(0, 99), 0);
        CHECK.due("when", x.when(0, 0), 0);
    }

    private static void whatOfATemper() {
        CHECK.sentence("Of a TEMPER: 0 HEAT .. 6 RING. BAD");
        TemperNurses x = Check.told("t7 4 9;t1 0 0;n1 1 9;n1 1 9;x0 1;");
        x.sends(0, 1);
        x.mixes(0, 1);
        int[] due = {7, 4, 9, 1, 1, 2, 2};
        for (int what = 0; what <= 6; what++) CHECK.due("temper(0, " + what + ")", x.temper(0, what), due[what]);
        CHECK.due("what -1", x.temper(0, -1), -1);
        CHECK.due("what 7", x.temper(0, 7), -1);
        CHECK.due("the last", x.temper(1, 0), 1);
        CHECK.due("beyond", x.temper(2, 0), -1);
        CHECK.due("below", x.temper(-1, 0), -1);
        CHECK.due("its NURSE (NONE: HOME)", x.temper(1, 3), -9);
    }

    private static void whatOfANurse() {
        CHECK.sentence("Of a NURSE: 0 TAMES .. 4 who MAY BE SENT to her (bits; who is there already not). BAD");
        TemperNurses x = Check.told(SIX + "n1 3 99;n9 1 9;");
        CHECK.due("has none", x.nurse(0, 3), 0);
        CHECK.due("all may be", x.nurse(0, 4), 63);
        x.sends(5, 0);
        CHECK.due("has the last", x.nurse(0, 3), 32);
        CHECK.due("who is there already not", x.nurse(0, 4), 31);
        CHECK.due("to the other, too", x.nurse(1, 4), 63);
        x.sends(0, 0);
        CHECK.due("has two", x.nurse(0, 3), 33);
        x.sends(1, 0);
        CHECK.due("has three", x.nurse(0, 3), 35);
        CHECK.due("full", x.nurse(0, 4), 0);
        int[] due = {9, 1, 9, 0, 63};
        for (int what = 0; what <= 4; what++) CHECK.due("nurse(1, " + what + ")", x.nurse(1, what), due[what]);
        CHECK.due("what -1", x.nurse(1, -1), -1);
        CHECK.due("what 5", x.nurse(1, 5), -1);
        CHECK.due("beyond", x.nurse(2, 0), -1);
        CHECK.due("below", x.nurse(-1, 0), -1);
    }

    private static void sheHoldsIt() {
        CHECK.sentence("its HEAT is no more than she HOLDS");
        for (int heat = 1; heat <= 60; heat++) {
            for (int holds = heat - 1; holds <= heat + 1; holds++) {
                if (holds < 1) continue;
                TemperNurses x = Check.told("t" + heat + " 0 0;n1 1 " + holds + ";");
                CHECK.due(heat + " to " + holds + ", may be", x.nurse(0, 4), heat <= holds ? 1 : 0);
                CHECK.due(heat + " to " + holds, x.sends(0, 0), heat <= holds ? 1 : -2);
            }
        }
    }

    private static void sheHoldsItNow() {
        CHECK.sentence("its HEAT is no more than she HOLDS (NOW)");
        TemperNurses x = Check.told("t9 1 0;n1 1 10;n3 1 99;");
        x.years(1);
        CHECK.due("10 to 10", x.nurse(0, 4), 1);
        x.years(1);
        CHECK.due("11 to 10", x.nurse(0, 4), 0);
        CHECK.due("11 to 10", x.sends(0, 0), -2);
        CHECK.due("11 to 99", x.sends(0, 1), 1);
        x.visits(0);
        CHECK.due("10 to 10", x.sends(0, 0), 1);
        TemperNurses y = Check.told("t60 5 0;n1 1 98;n1 1 99;");
        Check.letYearsGoBy(y, 9);
        CHECK.due("99 to 98", y.sends(0, 0), -2);
        CHECK.due("99 to 99", y.sends(0, 1), 1);
        TemperNurses z = Check.told("t1 0 0;n1 1 1;");
        z.sends(0, 0);
        z.visits(0);
        z.fetches(0);
        CHECK.due("a broken one to 1", z.sends(0, 0), 1);
    }

    private static void stayingWithoutBeingHeld() {
        CHECK.sentence("SENT: one that MAY BE (one that is there stays, however hot it grows)");
        TemperNurses x = Check.told("t10 5 0;n1 1 10;");
        x.sends(0, 0);
        x.years(1);
        CHECK.due("14, and she holds 10", x.temper(0, 0), 14);
        CHECK.due("it is with her", x.temper(0, 3), 0);
        CHECK.due("visited", x.visits(0), 13);
        CHECK.due("fetched", x.fetches(0), 0);
        CHECK.due("not sent again", x.sends(0, 0), -2);
    }

    private static void thereIsRoom() {
        CHECK.sentence("there is ROOM (she has fewer)");
        for (int room = 1; room <= 3; room++) {
            TemperNurses x = Check.told("t1 0 0;".repeat(5) + "n1 " + room + " 9;");
            for (int t = 0; t < room; t++) CHECK.due("sends " + t + " to room " + room, x.sends(t, 0), t + 1);
            CHECK.due("full, room " + room, x.sends(room, 0), -2);
            CHECK.due("none may be", x.nurse(0, 4), 0);
            CHECK.due("how many", Integer.bitCount(x.nurse(0, 3)), room);
            x.fetches(0);
            CHECK.due("room again", x.sends(4, 0), room);
            CHECK.due("full again", x.sends(0, 0), -2);
        }
    }

    private static void noneThatItClashesWith() {
        CHECK.sentence("none that it CLASHES with is there");
        TemperNurses x = Check.told("t1 0 0;t1 0 0;t1 0 0;n1 3 9;n1 3 9;x0 1;");
        CHECK.due("the other one is at home", x.sends(0, 0), 1);
        CHECK.due("the other one is there", x.sends(1, 0), -2);
        CHECK.due("who may be", x.nurse(0, 4), 4);
        CHECK.due("clashes with none", x.sends(2, 0), 2);
        CHECK.due("the other one is elsewhere", x.sends(1, 1), 1);
        CHECK.due("the other way round", x.sends(0, 1), -2);
        x.fetches(1);
        CHECK.due("the other one is at home again", x.sends(0, 1), 1);
    }

    private static void itselfNotCounting() {
        CHECK.sentence("(it itself not counting); STATE: it MAY not BE, is there");
        TemperNurses x = Check.told("t1 0 0;t1 0 0;n1 1 9;n1 1 9;");
        x.sends(0, 0);
        CHECK.due("is there", x.sends(0, 0), -2);
        CHECK.due("to one who is free", x.sends(0, 1), 1);
        CHECK.due("and back", x.sends(0, 0), 1);
        CHECK.due("nothing but these three", x.count(3), 3);
        CHECK.due("sends(0, 2)", x.sends(0, 2), -1);
        CHECK.due("sends(2, 0)", x.sends(2, 0), -1);
        CHECK.due("sends(1, 0): no room", x.sends(1, 0), -2);
    }

    private static void sentFromAnotherNurse() {
        CHECK.sentence("SENT: one that MAY BE, from HOME or another NURSE");
        TemperNurses x = Check.told(SIX + "n1 3 9;n1 3 9;n1 3 9;n1 3 9;");
        for (int n = 0; n < 4; n++) {
            CHECK.due("to " + n, x.sends(5, n), 1);
            CHECK.due("is with " + n, x.temper(5, 3), n);
            CHECK.due("has it", x.nurse(n, 3), 32);
            if (n > 0) CHECK.due("has it no more", x.nurse(n - 1, 3), 0);
        }
        x.sends(0, 3);
        CHECK.due("the third one", x.sends(1, 3), 3);
    }

    private static void fetched() {
        CHECK.sentence("FETCHED: its NURSE till then. STATE: it is at HOME");
        TemperNurses x = Check.told("t1 0 0;t1 0 0;n1 1 9;n1 1 9;n1 1 9;n1 1 9;");
        for (int n = 0; n < 4; n++) {
            CHECK.due("at home", x.fetches(0), -2);
            x.sends(0, n);
            CHECK.due("from " + n, x.fetches(0), n);
            CHECK.due("is at home", x.temper(0, 3), -9);
            CHECK.due("she has none", x.nurse(n, 3), 0);
        }
        CHECK.due("fetches(2)", x.fetches(2), -1);
        CHECK.due("fetches(-1)", x.fetches(-1), -1);
        CHECK.due("at home all along", x.fetches(1), -2);
    }

    private static void visited() {
        CHECK.sentence("VISITED: one that is with a NURSE, not BROKEN: HEAT is 1 less; STATE: it is at HOME, BROKEN");
        TemperNurses x = Check.told("t60 5 0;n9 1 99;");
        CHECK.due("at home", x.visits(0), -2);
        x.sends(0, 0);
        for (int heat = 59; heat >= 0; heat--) CHECK.due("visit", x.visits(0), heat);
        CHECK.due("broken", x.visits(0), -2);
        x.fetches(0);
        CHECK.due("broken, at home", x.visits(0), -2);
        CHECK.due("visits(1)", x.visits(1), -1);
        CHECK.due("visits(-1)", x.visits(-1), -1);
        TemperNurses y = Check.told("t60 5 0;n1 1 99;");
        Check.letYearsGoBy(y, 9);
        y.sends(0, 0);
        CHECK.due("from 99", y.visits(0), 98);
        y.fetches(0);
        CHECK.due("at home again", y.visits(0), -2);
    }

    private static void mixedUnlike() {
        CHECK.sentence("MIXED: two unlike TEMPERS change OWNERS; BAD (alike ones, too)");
        TemperNurses x = Check.told(SIX);
        for (int a = -1; a <= 6; a++) {
            for (int b = -1; b <= 6; b++) {
                boolean right = a >= 0 && a < 6 && b >= 0 && b < 6 && a != b;
                CHECK.due("mixes(" + a + ", " + b + ")", x.mixes(a, b), right ? 1 : -1);
                if (!right) continue;
                CHECK.due("owner of " + a, x.temper(a, 4), b);
                CHECK.due("owner of " + b, x.temper(b, 4), a);
                x.undo();
            }
        }
        CHECK.due("all is as it was", x.now(2), 0);
    }

    /** For all orders of six OWNERS: the fewest exchanges, found by going through all of them. */
    private static void rightIsTheFewest() {
        CHECK.sentence("RIGHT: the fewest MIXES by which each OWNER has his own");
        Map<String, Integer> fewest = new HashMap<>();
        Queue<int[]> open = new ArrayDeque<>();
        int[] first = {0, 1, 2, 3, 4, 5};
        fewest.put(Arrays.toString(first), 0);
        open.add(first);
        while (!open.isEmpty()) {
            int[] owners = open.remove();
            int mixes = fewest.get(Arrays.toString(owners));
            mixedAs(owners, mixes);
            for (int a = 0; a < 6; a++) {
                for (int b = a + 1; b < 6; b++) {
                    int[] next = owners.clone();
                    next[a] = owners[b];
                    next[b] = owners[a];
                    if (fewest.putIfAbsent(Arrays.toString(next), mixes + 1) == null) open.add(next);
                }
            }
        }
        CHECK.due("orders", fewest.size(), 720);
    }

    private static void mixedAs(int[] owners, int fewest) {
        TemperNurses x = Check.told(SIX);
        for (int t = 0; t < 6; t++) {
            for (int u = t + 1; u < 6 && x.temper(t, 4) != owners[t]; u++) {
                if (x.temper(u, 4) == owners[t]) x.mixes(t, u);
            }
        }
        CHECK.due("right of " + Arrays.toString(owners), x.now(2), fewest);
        for (int t = 0; t < 6; t++) {
            int ring = 1;
            for (int u = owners[t]; u != t; u = owners[u]) ring++;
            CHECK.due("ring of " + t + " in " + Arrays.toString(owners), x.temper(t, 6), ring);
        }
    }

    private static void ringOfATemper() {
        CHECK.sentence("RING of a TEMPER: how many are of it .. (1: right)");
        TemperNurses x = Check.told(SIX);
        CHECK.due("right", x.temper(0, 6), 1);
        for (int t = 0; t < 5; t++) {
            CHECK.due("mixed " + t, x.mixes(t, t + 1), t + 1);
            CHECK.due("ring", x.temper(0, 6), t + 2);
            CHECK.due("ring of the last", x.temper(5, 6), t == 4 ? 6 : 1);
        }
        CHECK.due("all of one ring: right", x.now(2), 5);
        CHECK.due("alone", Check.told("t1 0 0;").temper(0, 6), 1);
    }

    private static void yearsACall() {
        CHECK.sentence("n YEARS (1 .. 9). BAD");
        TemperNurses x = Check.told("t1 1 0;");
        for (int n : new int[] {Integer.MIN_VALUE, -9, -1, 0, 10, 11, 99, Integer.MAX_VALUE}) {
            CHECK.due("years(" + n + ")", x.years(n), -1);
        }
        CHECK.due("none went by", x.now(0), 0);
        int year = 0;
        for (int n = 1; n <= 9; n++) {
            CHECK.due("years(" + n + ")", x.years(n), 0);
            year += n;
            CHECK.due("year", x.now(0), year);
            CHECK.due("heat", x.temper(0, 0), 1 + year);
        }
    }

    private static void yearNinetyNine() {
        CHECK.sentence("A YEAR goes by (99 at most); STATE: it would be beyond 99");
        for (int ahead = 90; ahead <= 99; ahead++) {
            for (int n = 1; n <= 9; n++) {
                TemperNurses x = Check.told("t1 1 0;");
                Check.letYearsGoBy(x, ahead);
                boolean right = ahead + n <= 99;
                CHECK.due("years(" + n + ") at " + ahead, x.years(n), right ? 0 : -2);
                CHECK.due("year behind it", x.now(0), right ? ahead + n : ahead);
                CHECK.due("heat behind it", x.temper(0, 0), Math.min(99, 1 + (right ? ahead + n : ahead)));
            }
        }
        TemperNurses x = new TemperNurses();
        Check.letYearsGoBy(x, 99);
        CHECK.due("years(0) at 99", x.years(0), -1);
        CHECK.due("years(10) at 99", x.years(10), -1);
        CHECK.due("years(1) at 99", x.years(1), -2);
    }

    private static void yearsAnswerTheBroken() {
        CHECK.sentence("n YEARS: how many are BROKEN then");
        TemperNurses x = Check.told("t1 0 0;t2 0 0;t3 0 0;t4 0 0;t5 0 0;t6 0 0;n1 3 9;n1 3 9;");
        for (int t = 0; t < 6; t++) x.sends(t, t / 3);
        for (int broken = 1; broken <= 6; broken++) CHECK.due("year " + broken, x.years(1), broken);
        CHECK.due("all", x.now(1), 63);
        CHECK.due("all stay so", x.years(9), 6);
        CHECK.due("no tempers", new TemperNurses().years(9), 0);
    }

    private static void heatGrowsToNinetyNine() {
        CHECK.sentence("HEAT is GROWS more (99 at most)");
        for (int grows = 0; grows <= 5; grows++) {
            TemperNurses x = Check.told("t60 " + grows + " 0;");
            for (int year = 1; year <= 50; year++) {
                x.years(1);
                CHECK.due("heat", x.temper(0, 0), Math.min(99, 60 + grows * year));
            }
        }
    }

    private static void thenItIsTamed() {
        CHECK.sentence("GROWS more (99 at most), then, if it is with a NURSE, TAMES less");
        TemperNurses x = Check.told("t60 5 0;n4 1 99;n9 1 99;");
        Check.letYearsGoBy(x, 8);
        CHECK.due("99", x.temper(0, 0), 99);
        x.sends(0, 0);
        x.years(1);
        CHECK.due("99, 4 less", x.temper(0, 0), 95);
        x.years(9);
        CHECK.due("99, 4 less", x.temper(0, 0), 95);
        x.sends(0, 1);
        x.years(1);
        CHECK.due("99, 9 less", x.temper(0, 0), 90);
        x.years(1);
        CHECK.due("95, 9 less", x.temper(0, 0), 86);
    }

    private static void heatFallsToNought() {
        CHECK.sentence("TAMES less (0 at least)");
        for (int heat = 1; heat <= 20; heat++) {
            for (int grows = 0; grows <= 5; grows++) {
                TemperNurses x = Check.told("t" + heat + " " + grows + " 0;n9 1 99;");
                x.sends(0, 0);
                int due = Math.max(0, heat + grows - 9);
                CHECK.due("broken", x.years(1), due == 0 ? 1 : 0);
                CHECK.due(heat + " grows " + grows, x.temper(0, 0), due);
            }
        }
    }

    private static void undoneWhole() {
        CHECK.sentence("UNDONE: the latest SENT, FETCHED, VISITED, MIXED, YEARS: all is as ahead of it");
        TemperNurses x = Check.told("t9 2 0;t5 0 0;n4 2 20;n2 1 20;");
        CHECK.due("none", x.undo(), -2);
        x.sends(0, 0);
        x.years(2);
        undoneWhole(x, x.sends(0, 1));
        undoneWhole(x, x.fetches(0));
        undoneWhole(x, x.visits(0));
        undoneWhole(x, x.mixes(0, 1));
        undoneWhole(x, x.years(9));
        CHECK.due("one more", x.undo(), 1);
        CHECK.due("the last", x.undo(), 0);
        CHECK.due("none", x.undo(), -2);
        CHECK.due("year", x.now(0), 0);
    }

    private static void undoneWhole(TemperNurses x, int answer) {
        CHECK.due("not refused: " + answer, answer < 0 ? 1 : 0, 0);
        CHECK.due("three may be", x.count(3), 3);
        CHECK.due("undo", x.undo(), 2);
        CHECK.due("year", x.now(0), 2);
        int[][] due = {{5, 0, 0}, {5, -9, 1}};
        for (int t = 0; t < 2; t++) {
            CHECK.due("heat of " + t, x.temper(t, 0), due[t][0]);
            CHECK.due("place of " + t, x.temper(t, 3), due[t][1]);
            CHECK.due("owner of " + t, x.temper(t, 4), due[t][2]);
        }
    }

    private static void tenAreKnown() {
        CHECK.sentence("(10 are known, older ones are lost)");
        for (int done = 0; done <= 25; done++) {
            TemperNurses x = Check.told("t60 0 0;");
            for (int i = 0; i < done; i++) x.years(1 + i % 2);
            int known = Math.min(10, done);
            CHECK.due("known of " + done, x.count(3), known);
            for (int left = known - 1; left >= 0; left--) CHECK.due("undo of " + done, x.undo(), left);
            int lost = done - known;
            CHECK.due("year of " + done, x.now(0), lost + lost / 2);
            CHECK.due("older ones are lost", x.undo(), -2);
            CHECK.due("count", x.count(3), 0);
            x.years(3);
            CHECK.due("one is known again", x.undo(), 0);
            CHECK.due("year of " + done, x.now(0), lost + lost / 2);
        }
    }

    private static void whatIsNotToBeUndone() {
        CHECK.sentence("the latest SENT, FETCHED, VISITED, MIXED, YEARS (nothing else)");
        TemperNurses x = Check.told("t9 2 0;t5 0 0;n4 2 20;");
        x.sends(0, 0);
        x.hears(5, 1);
        x.type('t');
        x.mark(3, 0);
        x.keep(0);
        x.hill();
        CHECK.due("one", x.count(3), 1);
        CHECK.due("it", x.undo(), 0);
        CHECK.due("at home", x.temper(0, 3), -9);
        CHECK.due("heard", x.count(2), 1);
        CHECK.due("bytes", x.count(4), 1);
        CHECK.due("trace", x.trace(), 1011);
        CHECK.due("image", x.back(0), 0);
        CHECK.due("with her", x.temper(0, 3), 0);
        x.forget();
        x.clear();
        CHECK.due("one", x.count(3), 1);
    }

    private static void refusedIsNotToBeUndone() {
        CHECK.sentence("Refused, and nothing changes (nothing to be UNDONE comes of it)");
        TemperNurses x = Check.told("t9 2 0;t5 0 0;n4 1 20;");
        x.sends(0, 0);
        int[] refused = {x.sends(0, 0), x.sends(1, 0), x.sends(2, 0), x.fetches(1), x.fetches(2), x.visits(1), x.visits(2),
            x.mixes(0, 0), x.mixes(0, 2), x.years(0), x.years(10), x.temper(0, 7), x.back(0), x.keep(2)};
        int[] due = {-2, -2, -1, -2, -1, -2, -1, -1, -1, -1, -1, -1, -2, -1};
        for (int i = 0; i < due.length; i++) CHECK.due("refused " + i, refused[i], due[i]);
        CHECK.due("one may be", x.count(3), 1);
        CHECK.due("undo", x.undo(), 0);
    }

    private static void undoneAtTheLastYear() {
        CHECK.sentence("UNDONE: STATE: none; the YEAR comes back, too");
        TemperNurses x = Check.told("t60 5 0;");
        Check.letYearsGoBy(x, 99);
        CHECK.due("at 99", x.years(1), -2);
        CHECK.due("undo", x.undo(), 9);
        CHECK.due("90", x.now(0), 90);
        CHECK.due("on to 99", x.years(9), 0);
        CHECK.due("ten again", x.count(3), 10);
        for (int left = 9; left >= 0; left--) CHECK.due("undo", x.undo(), left);
        CHECK.due("9", x.now(0), 9);
        CHECK.due("none", x.undo(), -2);
        CHECK.due("9 still", x.now(0), 9);
    }

    private static void now() {
        CHECK.sentence("0 the YEAR .. 4 HEATS of all, together. BAD");
        TemperNurses x = Check.told("t60 5 0;".repeat(6) + "n9 3 99;");
        CHECK.due("heats", x.now(4), 360);
        Check.letYearsGoBy(x, 99);
        int[] due = {99, 0, 0, -9, 594};
        for (int what = 0; what <= 4; what++) CHECK.due("now(" + what + ")", x.now(what), due[what]);
        CHECK.due("now(-1)", x.now(-1), -1);
        CHECK.due("now(5)", x.now(5), -1);
    }
}
