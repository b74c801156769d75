import java.math.BigInteger;
import java.util.ArrayList;
import java.util.Arrays;
import java.util.List;

/** The document written a second time, plainly: all ways are gone through, all state is copied. */
final class Model {
    private static final int BAD = -1, STATE = -2, FULL = -3, NONE = -9, NO = -1000000;

    private record Temper(int heat, int grows, int due) {}
    private record Nurse(int tames, int room, int holds) {}
    private record Heard(int b, boolean bangs) {}
    private record State(int year, List<Integer> heats, List<Integer> places, List<Integer> owners) {}
    private record Image(State now, List<State> past) {}
    private record Token(String text, int place) {}

    private List<Temper> tempers = new ArrayList<>();
    private List<Nurse> nurses = new ArrayList<>();
    private boolean[][] clash = new boolean[6][6];
    private final StringBuilder text = new StringBuilder();
    private State now = new State(0, List.of(), List.of(), List.of());
    private List<State> past = new ArrayList<>();
    private final List<Heard> heard = new ArrayList<>();
    private final Image[] images = new Image[2];
    private long traced;

    int type(int c) {
        if (c < 0 || c > 255) return BAD;
        if (text.length() == 120) return FULL;
        text.append((char) c);
        return text.length();
    }

    int clear() {
        int had = text.length();
        text.setLength(0);
        return had;
    }

    int hill() {
        List<Temper> newTempers = new ArrayList<>();
        List<Nurse> newNurses = new ArrayList<>();
        boolean[][] newClash = new boolean[6][6];
        List<Token> tokens = tokens();
        int at = 0, items = 0;
        while (!tokens.get(at).text.isEmpty()) {
            Token head = tokens.get(at++);
            boolean begins = head.text.equals("t") && newTempers.size() < 6
                || head.text.equals("n") && newNurses.size() < 4 || head.text.equals("x");
            if (!begins) return -10 - head.place;
            int last = newTempers.size() - 1;
            int[][] bounds = switch (head.text) {
                case "t" -> new int[][] {{1, 60}, {0, 5}, {0, 40}};
                case "n" -> new int[][] {{1, 9}, {1, 3}, {1, 99}};
                default -> new int[][] {{0, last}, {0, last}};
            };
            int[] told = new int[bounds.length];
            for (int i = 0; i < bounds.length; i++) {
                Token token = tokens.get(at++);
                if (!token.text.matches("0|[1-9][0-9]?")) return -10 - token.place;
                told[i] = Integer.parseInt(token.text);
                if (told[i] < bounds[i][0] || told[i] > bounds[i][1]) return -10 - token.place;
                if (head.text.equals("x") && i == 1 && told[0] == told[1]) return -10 - token.place;
            }
            Token end = tokens.get(at++);
            if (!end.text.equals(";")) return -10 - end.place;
            items++;
            switch (head.text) {
                case "t" -> newTempers.add(new Temper(told[0], told[1], told[2]));
                case "n" -> newNurses.add(new Nurse(told[0], told[1], told[2]));
                default -> newClash[told[0]][told[1]] = newClash[told[1]][told[0]] = true;
            }
        }
        tempers = newTempers;
        nurses = newNurses;
        clash = newClash;
        List<Integer> heats = new ArrayList<>(), places = new ArrayList<>(), owners = new ArrayList<>();
        for (Temper t : tempers) {
            owners.add(heats.size());
            heats.add(t.heat);
            places.add(NONE);
        }
        now = new State(0, heats, places, owners);
        past.clear();
        heard.clear();
        Arrays.fill(images, null);
        text.setLength(0);
        return items;
    }

    /** The last token is the empty one at the text's end; wrong ones are whole, so that no number is seen in them. */
    private List<Token> tokens() {
        List<Token> tokens = new ArrayList<>();
        java.util.regex.Matcher m = java.util.regex.Pattern.compile("(?s)[a-z]+|[0-9]+|[^ ]").matcher(text);
        while (m.find()) tokens.add(new Token(m.group(), m.start()));
        for (int i = 0; i < 5; i++) tokens.add(new Token("", text.length()));
        return tokens;
    }

    int temper(int t, int what) {
        if (!isTemper(t) || what < 0 || what > 6) return BAD;
        int clashes = 0;
        for (int u = 0; u < 6; u++) if (clash[t][u]) clashes += 1 << u;
        int ring = 1;
        for (int u = now.owners.get(t); u != t; u = now.owners.get(u)) ring++;
        return new int[] {now.heats.get(t), tempers.get(t).grows, tempers.get(t).due, now.places.get(t),
            now.owners.get(t), clashes, ring}[what];
    }

    int nurse(int n, int what) {
        if (!isNurse(n) || what < 0 || what > 4) return BAD;
        int has = 0, may = 0;
        for (int t = 0; t < tempers.size(); t++) {
            if (now.places.get(t) == n) has += 1 << t;
            else if (maySend(t, n)) may += 1 << t;
        }
        Nurse nurse = nurses.get(n);
        return new int[] {nurse.tames, nurse.room, nurse.holds, has, may}[what];
    }

    private boolean maySend(int t, int n) {
        int there = 0;
        for (int u = 0; u < tempers.size(); u++) {
            if (u == t || now.places.get(u) != n) continue;
            if (clash[t][u]) return false;
            there++;
        }
        return now.heats.get(t) <= nurses.get(n).holds && there < nurses.get(n).room;
    }

    private void become(State next) {
        past.add(now);
        if (past.size() > 10) past.remove(0);
        now = next;
    }

    private static List<Integer> with(List<Integer> list, int at, int value) {
        List<Integer> copy = new ArrayList<>(list);
        copy.set(at, value);
        return copy;
    }

    int sends(int t, int n) {
        if (!isTemper(t) || !isNurse(n)) return BAD;
        if (now.places.get(t) == n || !maySend(t, n)) return STATE;
        become(new State(now.year, now.heats, with(now.places, t, n), now.owners));
        return Integer.bitCount(nurse(n, 3));
    }

    int fetches(int t) {
        if (!isTemper(t)) return BAD;
        int n = now.places.get(t);
        if (n == NONE) return STATE;
        become(new State(now.year, now.heats, with(now.places, t, NONE), now.owners));
        return n;
    }

    int visits(int t) {
        if (!isTemper(t)) return BAD;
        int heat = now.heats.get(t);
        if (now.places.get(t) == NONE || heat == 0) return STATE;
        become(new State(now.year, with(now.heats, t, heat - 1), now.places, now.owners));
        return heat - 1;
    }

    int mixes(int a, int b) {
        if (!isTemper(a) || !isTemper(b) || a == b) return BAD;
        List<Integer> owners = with(with(now.owners, a, now.owners.get(b)), b, now.owners.get(a));
        become(new State(now.year, now.heats, now.places, owners));
        return right();
    }

    /** By exchanges, each of which gives one OWNER his own. */
    private int right() {
        List<Integer> owners = new ArrayList<>(now.owners);
        int exchanges = 0;
        for (int t = 0; t < owners.size(); t++) {
            int has = owners.indexOf(t);
            if (has == t) continue;
            owners.set(has, owners.get(t));
            owners.set(t, t);
            exchanges++;
        }
        return exchanges;
    }

    private int next(int heat, int t, int n) {
        if (heat == 0) return 0;
        int grown = Math.min(99, heat + tempers.get(t).grows);
        return n == NONE ? grown : Math.max(0, grown - nurses.get(n).tames);
    }

    int years(int n) {
        if (n < 1 || n > 9) return BAD;
        if (now.year + n > 99) return STATE;
        List<Integer> heats = new ArrayList<>();
        for (int t = 0; t < tempers.size(); t++) heats.add(hot(t, n));
        become(new State(now.year + n, heats, now.places, now.owners));
        return Integer.bitCount(broken());
    }

    private int broken() {
        int bits = 0;
        for (int t = 0; t < tempers.size(); t++) if (now.heats.get(t) == 0) bits += 1 << t;
        return bits;
    }

    int undo() {
        if (past.isEmpty()) return STATE;
        now = past.remove(past.size() - 1);
        return past.size();
    }

    int now(int what) {
        return switch (what) {
            case 0 -> now.year;
            case 1 -> broken();
            case 2 -> right();
            case 3 -> soonest();
            case 4 -> now.heats.stream().mapToInt(h -> h).sum();
            default -> BAD;
        };
    }

    int when(int t, int n) {
        if (!isTemper(t) || !isNurse(n)) return BAD;
        int heat = now.heats.get(t), years = 0;
        while (heat > 0 && years < 100) {
            heat = next(heat, t, n);
            years++;
        }
        return years > 99 ? NONE : years;
    }

    int hot(int t, int n) {
        if (!isTemper(t) || n < 0 || n > 99) return BAD;
        int heat = now.heats.get(t);
        for (int i = 0; i < n; i++) heat = next(heat, t, now.places.get(t));
        return heat;
    }

    /** All ways, in their order, that are allowed. */
    private List<int[]> ways() {
        List<int[]> ways = new ArrayList<>();
        int base = nurses.size() + 1;
        int all = (int) Math.pow(base, tempers.size());
        for (int code = 0; code < all; code++) {
            int[] way = new int[tempers.size()];
            int rest = code;
            for (int t = way.length - 1; t >= 0; t--) {
                way[t] = rest % base == nurses.size() ? NONE : rest % base;
                rest /= base;
            }
            if (isAllowed(way)) ways.add(way);
        }
        return ways;
    }

    private boolean isAllowed(int[] way) {
        int[] has = new int[4];
        for (int t = 0; t < way.length; t++) {
            if (way[t] == NONE) continue;
            Nurse nurse = nurses.get(way[t]);
            if (now.heats.get(t) > nurse.holds || ++has[way[t]] > nurse.room) return false;
            for (int u = 0; u < t; u++) if (way[u] == way[t] && clash[t][u]) return false;
        }
        return true;
    }

    int plan(int t) {
        if (t != -1 && !isTemper(t)) return BAD;
        int most = -1;
        int[] chosen = null;
        for (int[] way : ways()) {
            int sent = (int) Arrays.stream(way).filter(n -> n != NONE).count();
            if (sent <= most) continue;
            most = sent;
            chosen = way;
        }
        return t == -1 ? most : chosen[t];
    }

    private int soonest() {
        int fewest = 100;
        for (int[] way : ways()) {
            int years = 0;
            for (int t = 0; t < way.length; t++) {
                if (now.heats.get(t) == 0) continue;
                int when = way[t] == NONE ? NONE : when(t, way[t]);
                years = when == NONE ? 100 : Math.max(years, when);
            }
            fewest = Math.min(fewest, years);
        }
        return fewest == 100 ? NONE : fewest;
    }

    int best(int t, int what) {
        if (!isTemper(t) || what < 0 || what > 1) return NO;
        int[] best = null;
        for (int n = 20; n >= 0; n--) {
            int much = Math.max(0, 50 - hot(t, n)) - 2 * n - (now.year + n > tempers.get(t).due ? 30 : 0);
            if (best == null || much >= best[1]) best = new int[] {n, much};
        }
        return best[what];
    }

    int beds(int limit, int t) {
        if (limit < 0 || limit > 198 || t != -1 && !isTemper(t)) return BAD;
        int size = tempers.size();
        int most = -1;
        int[] chosen = null;
        int all = (int) Math.pow(size + 1, size);
        for (int code = 0; code < all; code++) {
            int[] other = new int[size];
            int rest = code, lying = 0;
            for (int u = size - 1; u >= 0; u--) {
                other[u] = rest % (size + 1);
                rest /= size + 1;
            }
            boolean fits = true;
            for (int u = 0; u < size && fits; u++) {
                if (other[u] == size) continue;
                lying++;
                fits = other[u] != u && other[other[u]] == u && !clash[u][other[u]]
                    && now.heats.get(u) + now.heats.get(other[u]) <= limit;
            }
            if (!fits || lying / 2 <= most) continue;
            most = lying / 2;
            chosen = other;
        }
        if (t == -1) return most;
        return chosen[t] == size ? NONE : chosen[t];
    }

    int odds(int x, int k, int what) {
        if (x < 0 || x > 10 || k < 0 || k > 6 || what < 0 || what > 1) return BAD;
        int wild = tempers.size() - Integer.bitCount(broken());
        BigInteger upper = BigInteger.ZERO;
        for (int bits = 0; bits < 1 << wild; bits++) {
            int loose = Integer.bitCount(bits);
            if (loose > k) continue;
            upper = upper.add(BigInteger.valueOf(x).pow(loose).multiply(BigInteger.valueOf(10 - x).pow(wild - loose)));
        }
        BigInteger lower = BigInteger.TEN.pow(wild);
        return (what == 0 ? upper : lower).divide(upper.gcd(lower)).intValue();
    }

    int hears(int b, int bangs) {
        if (b < 0 || b > 99 || bangs < 0 || bangs > 1) return BAD;
        if (heard.size() == 4) return FULL;
        heard.add(new Heard(b, bangs == 1));
        return heard.size();
    }

    int forget() {
        int had = heard.size();
        heard.clear();
        return had;
    }

    int whose() {
        int bits = 0;
        for (int t = 0; t < tempers.size(); t++) {
            int heat = now.heats.get(t);
            if (heard.stream().allMatch(h -> h.bangs ? heat >= h.b : heat < h.b)) bits += 1 << t;
        }
        return bits;
    }

    int ask() {
        List<Integer> these = new ArrayList<>();
        for (int t = 0; t < tempers.size(); t++) if ((whose() >> t & 1) == 1) these.add(now.heats.get(t));
        if (these.size() < 2) return NONE;
        int least = these.size(), chosen = NONE;
        for (int b = 99; b >= 0; b--) {
            int limit = b;
            int banging = (int) these.stream().filter(h -> h >= limit).count();
            int greater = Math.max(banging, these.size() - banging);
            if (greater == these.size() || greater > least) continue;
            least = greater;
            chosen = b;
        }
        return chosen;
    }

    int mark(int kind, int t) {
        if (kind < 0 || kind > 5 || !isTemper(t)) return NO;
        traced += new int[] {1, 10, 100, 1000, 10000, 100000}[kind];
        return switch (kind) {
            case 0 -> now.heats.get(t);
            case 1 -> mark(0, t) + tempers.get(t).grows;
            case 2 -> mark(0, t) - Integer.bitCount(broken());
            case 3 -> mark(1, t) * 2;
            case 4 -> mark(2, t) + t;
            default -> mark(0, t) + now.year;
        };
    }

    int keep(int image) {
        if (image < 0 || image > 1) return BAD;
        images[image] = new Image(now, new ArrayList<>(past));
        return now.year;
    }

    int back(int image) {
        if (image < 0 || image > 1) return BAD;
        if (images[image] == null) return STATE;
        now = images[image].now;
        past = new ArrayList<>(images[image].past);
        return now.year;
    }

    int count(int what) {
        if (what < 0 || what > 4) return BAD;
        return new int[] {tempers.size(), nurses.size(), heard.size(), past.size(), text.length()}[what];
    }

    long trace() {
        return traced;
    }

    private boolean isTemper(int t) {
        return t >= 0 && t < tempers.size();
    }

    private boolean isNurse(int n) {
        return n >= 0 && n < nurses.size();
    }
}
