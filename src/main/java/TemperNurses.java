import java.util.Arrays;

/** Tempers that are put out to nurse, as ../shared/DOC.md tells; one object is one hill. */
public final class TemperNurses {
    public static final int BAD = -1, STATE = -2, FULL = -3, NONE = -9;
    public static final int NO = -1000000;

    private static final int MOST_TEMPERS = 6, MOST_NURSES = 4, MOST_BYTES = 120;
    private static final int MOST_HEAT = 99, LAST_YEAR = 99, MOST_YEARS_AHEAD = 99, MOST_YEARS_A_CALL = 9;
    private static final int MOST_UNDONE = 10, MOST_HEARD = 4, IMAGES = 2;
    private static final int ALL = -1;
    private static final int FAULT_BASE = -10;
    private static final int LATEST_FETCH = 20, FETCH_WORTH = 50, YEAR_COST = 2, LATE_COST = 30;
    private static final int MOST_BED_HEAT = 198, MOST_BANG = 99, ODDS_OF = 10;

    private final Hill told;
    private final TextReader reader;
    private final Course course;
    private final House house;
    private final Planner planner;
    private final BedMaker bedMaker;
    private final Listener listener;
    private final Kinds kinds;
    private final Course image0, image1;
    private final int[] looseWays;
    private int keptImages;

    public TemperNurses() {
        told = new Hill();
        reader = new TextReader();
        course = new Course();
        house = new House(told, course);
        planner = new Planner(house);
        bedMaker = new BedMaker(house);
        listener = new Listener(house);
        kinds = new Kinds(house);
        image0 = new Course();
        image1 = new Course();
        looseWays = new int[MOST_TEMPERS + 1];
        course.begin(told);
    }

    // ---- the hill

    public int type(int c) {
        if (!isWithin(c, 0, 255)) return BAD;
        return reader.append(c) ? reader.length : FULL;
    }

    public int clear() {
        return reader.empty();
    }

    public int hill() {
        int items = reader.readAll();
        if (items < 0) return items;
        told.take(reader.draft);
        course.begin(told);
        listener.empty();
        keptImages = 0;
        reader.empty();
        return items;
    }

    public int temper(int t, int what) {
        if (!told.hasTemper(t)) return BAD;
        switch (what) {
            case 0: return course.heat(t);
            case 1: return told.grows[t];
            case 2: return told.dues[t];
            case 3: return course.place(t);
            case 4: return course.owner(t);
            case 5: return told.clashes[t];
            case 6: return course.ring(t);
            default: return BAD;
        }
    }

    public int nurse(int n, int what) {
        if (!told.hasNurse(n)) return BAD;
        switch (what) {
            case 0: return told.tames[n];
            case 1: return told.rooms[n];
            case 2: return told.holds[n];
            case 3: return house.thoseWith(n);
            case 4: return house.thoseThatMayBeSentTo(n);
            default: return BAD;
        }
    }

    // ---- what is done

    public int sends(int t, int n) {
        if (!told.hasTemper(t) || !told.hasNurse(n)) return BAD;
        if (!house.mayBeSent(t, n)) return STATE;
        course.remember();
        course.setPlace(t, n);
        return Integer.bitCount(house.thoseWith(n));
    }

    public int fetches(int t) {
        if (!told.hasTemper(t)) return BAD;
        int n = course.place(t);
        if (n == NONE) return STATE;
        course.remember();
        course.setPlace(t, NONE);
        return n;
    }

    public int visits(int t) {
        if (!told.hasTemper(t)) return BAD;
        int heat = course.heat(t);
        if (course.place(t) == NONE || heat == 0) return STATE;
        course.remember();
        course.setHeat(t, heat - 1);
        return heat - 1;
    }

    public int mixes(int a, int b) {
        if (!told.hasTemper(a) || !told.hasTemper(b) || a == b) return BAD;
        course.remember();
        int ownerOfA = course.owner(a);
        course.setOwner(a, course.owner(b));
        course.setOwner(b, ownerOfA);
        return course.mixesToRight(told.tempers);
    }

    public int years(int n) {
        if (!isWithin(n, 1, MOST_YEARS_A_CALL)) return BAD;
        if (course.year() + n > LAST_YEAR) return STATE;
        course.remember();
        for (int t = 0; t < told.tempers; t++) {
            course.setHeat(t, house.heatIn(t, n));
        }
        course.setYear(course.year() + n);
        return Integer.bitCount(house.broken());
    }

    public int undo() {
        return course.stepBack() ? course.past : STATE;
    }

    public int now(int what) {
        switch (what) {
            case 0: return course.year();
            case 1: return house.broken();
            case 2: return course.mixesToRight(told.tempers);
            case 3: return planner.soonest();
            case 4: return house.heatOfAll();
            default: return BAD;
        }
    }

    // ---- plans

    public int when(int t, int n) {
        if (!told.hasTemper(t) || !told.hasNurse(n)) return BAD;
        return house.yearsTillBroken(t, n);
    }

    public int hot(int t, int n) {
        if (!told.hasTemper(t) || !isWithin(n, 0, MOST_YEARS_AHEAD)) return BAD;
        return house.heatIn(t, n);
    }

    public int plan(int t) {
        if (t != ALL && !told.hasTemper(t)) return BAD;
        planner.findPlan();
        return t == ALL ? planner.most : planner.chosen[t];
    }

    public int best(int t, int what) {
        if (!told.hasTemper(t) || !isWithin(what, 0, 1)) return NO;
        int bestYears = 0;
        int bestWorth = house.worthOfFetching(t, 0);
        for (int n = 1; n <= LATEST_FETCH; n++) {
            int worth = house.worthOfFetching(t, n);
            if (worth > bestWorth) {
                bestWorth = worth;
                bestYears = n;
            }
        }
        return what == 0 ? bestYears : bestWorth;
    }

    public int beds(int limit, int t) {
        if (!isWithin(limit, 0, MOST_BED_HEAT)) return BAD;
        if (t != ALL && !told.hasTemper(t)) return BAD;
        bedMaker.makeBeds(limit);
        return t == ALL ? bedMaker.most : bedMaker.chosen[t];
    }

    public int odds(int x, int k, int what) {
        if (!isWithin(x, 0, ODDS_OF) || !isWithin(k, 0, MOST_TEMPERS) || !isWithin(what, 0, 1)) return BAD;
        int upper = countLooseWays(x, k);
        // No more than all TEMPERS can break loose: these are all ways there are.
        int lower = countLooseWays(x, MOST_TEMPERS);
        int divisor = commonDivisor(upper, lower);
        if (divisor == 0) return BAD;
        return (what == 0 ? upper : lower) / divisor;
    }

    // ---- whose it is

    public int hears(int b, int bangs) {
        if (!isWithin(b, 0, MOST_BANG) || !isWithin(bangs, 0, 1)) return BAD;
        return listener.append(b, bangs) ? listener.heard : FULL;
    }

    public int forget() {
        return listener.empty();
    }

    public int whose() {
        return listener.suspects();
    }

    public int ask() {
        return listener.nextBang();
    }

    // ---- kinds, images

    public int mark(int kind, int t) {
        if (!told.hasTemper(t)) return NO;
        switch (kind) {
            case 0: return kinds.asTemper(t);
            case 1: return kinds.asRage(t);
            case 2: return kinds.asSulk(t);
            case 3: return kinds.asStorm(t);
            case 4: return kinds.asGrudge(t);
            case 5: return kinds.asPet(t);
            default: return NO;
        }
    }

    public int keep(int image) {
        if (!isWithin(image, 0, IMAGES - 1)) return BAD;
        imageOf(image).take(course);
        keptImages |= bit(image);
        return course.year();
    }

    public int back(int image) {
        if (!isWithin(image, 0, IMAGES - 1)) return BAD;
        if ((keptImages & bit(image)) == 0) return STATE;
        course.take(imageOf(image));
        return course.year();
    }

    public int count(int what) {
        switch (what) {
            case 0: return told.tempers;
            case 1: return told.nurses;
            case 2: return listener.heard;
            case 3: return course.past;
            case 4: return reader.length;
            default: return BAD;
        }
    }

    public long trace() {
        return kinds.traced;
    }

    private static boolean isWithin(int value, int least, int most) {
        return value >= least && value <= most;
    }

    private static int bit(int t) {
        return 1 << t;
    }

    private Course imageOf(int image) {
        return image == 0 ? image0 : image1;
    }

    /** In how many of 10 to the power of the TEMPERS not BROKEN no more than k break loose. */
    private int countLooseWays(int x, int k) {
        Arrays.fill(looseWays, 0);
        looseWays[0] = 1;
        for (int t = 0; t < told.tempers; t++) {
            if (course.heat(t) == 0) continue;
            for (int loose = MOST_TEMPERS; loose > 0; loose--) {
                looseWays[loose] = looseWays[loose] * (ODDS_OF - x) + looseWays[loose - 1] * x;
            }
            looseWays[0] *= ODDS_OF - x;
        }
        int ways = 0;
        for (int loose = 0; loose <= k && loose <= MOST_TEMPERS; loose++) {
            ways += looseWays[loose];
        }
        return ways;
    }

    private static int commonDivisor(int a, int b) {
        int greater = a;
        int lesser = b;
        for (int step = 0; step < 64 && lesser != 0; step++) {
            int rest = greater % lesser;
            greater = lesser;
            lesser = rest;
        }
        return greater;
    }

    /** What a text told; it stays as it is till a text is read anew. */
    private static final class Hill {
        int tempers, nurses;
        final int[] heats = new int[MOST_TEMPERS];
        final int[] grows = new int[MOST_TEMPERS];
        final int[] dues = new int[MOST_TEMPERS];
        final int[] clashes = new int[MOST_TEMPERS];
        final int[] tames = new int[MOST_NURSES];
        final int[] rooms = new int[MOST_NURSES];
        final int[] holds = new int[MOST_NURSES];

        boolean hasTemper(int t) {
            return t >= 0 && t < tempers;
        }

        boolean hasNurse(int n) {
            return n >= 0 && n < nurses;
        }

        void wipe() {
            tempers = 0;
            nurses = 0;
            Arrays.fill(clashes, 0);
        }

        void addTemper(int heat, int growsBy, int due) {
            if (tempers >= MOST_TEMPERS) return;
            heats[tempers] = heat;
            grows[tempers] = growsBy;
            dues[tempers] = due;
            tempers++;
        }

        void addNurse(int tamesBy, int room, int holdsUpTo) {
            if (nurses >= MOST_NURSES) return;
            tames[nurses] = tamesBy;
            rooms[nurses] = room;
            holds[nurses] = holdsUpTo;
            nurses++;
        }

        void addClash(int a, int b) {
            if (!hasTemper(a) || !hasTemper(b)) return;
            clashes[a] |= bit(b);
            clashes[b] |= bit(a);
        }

        void take(Hill other) {
            tempers = other.tempers;
            nurses = other.nurses;
            System.arraycopy(other.heats, 0, heats, 0, MOST_TEMPERS);
            System.arraycopy(other.grows, 0, grows, 0, MOST_TEMPERS);
            System.arraycopy(other.dues, 0, dues, 0, MOST_TEMPERS);
            System.arraycopy(other.clashes, 0, clashes, 0, MOST_TEMPERS);
            System.arraycopy(other.tames, 0, tames, 0, MOST_NURSES);
            System.arraycopy(other.rooms, 0, rooms, 0, MOST_NURSES);
            System.arraycopy(other.holds, 0, holds, 0, MOST_NURSES);
        }
    }

    /** THE TEXT, and the reading of it into a draft, so that a FAULT changes nothing. */
    private static final class TextReader {
        private static final int END = 0, LETTERS = 1, NUMBER = 2, SEMICOLON = 3, WRONG = 4;
        private static final int MOST_NUMBER = 99, NUMBERS_AN_ITEM = 3, NUMBERS_A_CLASH = 2;
        private static final int BETWEEN_ITEMS = 0;
        private static final int[] TEMPER_LEAST = {1, 0, 0};
        private static final int[] TEMPER_MOST = {60, 5, 40};
        private static final int[] NURSE_LEAST = {1, 1, 1};
        private static final int[] NURSE_MOST = {9, 3, 99};

        final Hill draft = new Hill();
        int length;
        private final int[] bytes = new int[MOST_BYTES];
        // The TOKEN read last: its kind, its first byte, the byte behind it, and its number or lone letter.
        private int kind, start, next, value;
        // The ITEM that is read: the letter that began it, and what it told so far.
        private int item, toldSoFar;
        private final int[] numbers = new int[NUMBERS_AN_ITEM];

        boolean append(int c) {
            if (length >= MOST_BYTES) return false;
            bytes[length] = c;
            length++;
            return true;
        }

        int empty() {
            int had = length;
            length = 0;
            return had;
        }

        /** How many ITEMS, or -10 less FAULT. */
        int readAll() {
            draft.wipe();
            next = 0;
            item = BETWEEN_ITEMS;
            int items = 0;
            for (int tokens = 0; tokens <= MOST_BYTES; tokens++) {
                readToken();
                if (kind == END && item == BETWEEN_ITEMS) return items;
                if (!canStand()) return FAULT_BASE - start;
                if (kind == SEMICOLON) items++;
                takeToken();
            }
            return items;
        }

        private boolean canStand() {
            if (item == BETWEEN_ITEMS) return kind == LETTERS && canBeginItem();
            if (toldSoFar < numbersOfItem()) return kind == NUMBER && canBeTold();
            return kind == SEMICOLON;
        }

        private boolean canBeginItem() {
            switch (value) {
                case 't': return draft.tempers < MOST_TEMPERS;
                case 'n': return draft.nurses < MOST_NURSES;
                case 'x': return true;
                default: return false;
            }
        }

        private boolean canBeTold() {
            int i = toldSoFar;
            if (!isWithin(i, 0, NUMBERS_AN_ITEM - 1)) return false;
            switch (item) {
                case 't': return isWithin(value, TEMPER_LEAST[i], TEMPER_MOST[i]);
                case 'n': return isWithin(value, NURSE_LEAST[i], NURSE_MOST[i]);
                default: return draft.hasTemper(value) && (i == 0 || value != numbers[0]);
            }
        }

        private int numbersOfItem() {
            return item == 'x' ? NUMBERS_A_CLASH : NUMBERS_AN_ITEM;
        }

        private void takeToken() {
            if (kind == LETTERS) {
                item = value;
                toldSoFar = 0;
            } else if (kind == NUMBER && toldSoFar < NUMBERS_AN_ITEM) {
                numbers[toldSoFar] = value;
                toldSoFar++;
            } else {
                takeItem();
                item = BETWEEN_ITEMS;
            }
        }

        private void takeItem() {
            switch (item) {
                case 't':
                    draft.addTemper(numbers[0], numbers[1], numbers[2]);
                    break;
                case 'n':
                    draft.addNurse(numbers[0], numbers[1], numbers[2]);
                    break;
                default:
                    draft.addClash(numbers[0], numbers[1]);
                    break;
            }
        }

        private void readToken() {
            start = next;
            while (start < length && byteAt(start) == ' ') start++;
            next = start;
            value = 0;
            if (start >= length) {
                kind = END;
            } else if (isLetter(start)) {
                readLetters();
            } else if (isDigit(start)) {
                readDigits();
            } else {
                kind = byteAt(start) == ';' ? SEMICOLON : WRONG;
                next = start + 1;
            }
        }

        private void readLetters() {
            kind = LETTERS;
            while (next < length && isLetter(next)) next++;
            // Letters side by side begin no ITEM: only a lone one has a value.
            if (next - start == 1) value = byteAt(start);
        }

        private void readDigits() {
            while (next < length && isDigit(next)) {
                if (value <= MOST_NUMBER) value = value * 10 + byteAt(next) - '0';
                next++;
            }
            boolean zeroAhead = next - start > 1 && byteAt(start) == '0';
            kind = zeroAhead || value > MOST_NUMBER ? WRONG : NUMBER;
        }

        private boolean isLetter(int at) {
            return isWithin(byteAt(at), 'a', 'z');
        }

        private boolean isDigit(int at) {
            return isWithin(byteAt(at), '0', '9');
        }

        private int byteAt(int at) {
            return isWithin(at, 0, MOST_BYTES - 1) ? bytes[at] : 0;
        }
    }

    /** NOW, and all that may be UNDONE: rows of one array, the last of them in use being NOW. */
    private static final class Course {
        private static final int YEAR = 0, HEATS = 1, PLACES = HEATS + MOST_TEMPERS, OWNERS = PLACES + MOST_TEMPERS;
        private static final int WIDTH = OWNERS + MOST_TEMPERS;

        private final int[] rows = new int[(MOST_UNDONE + 1) * WIDTH];
        int past;

        void begin(Hill told) {
            past = 0;
            setYear(0);
            for (int t = 0; t < MOST_TEMPERS; t++) {
                setHeat(t, told.heats[t]);
                setPlace(t, NONE);
                setOwner(t, t);
            }
        }

        void take(Course other) {
            past = other.past;
            System.arraycopy(other.rows, 0, rows, 0, rows.length);
        }

        void remember() {
            if (past >= MOST_UNDONE) {
                System.arraycopy(rows, WIDTH, rows, 0, MOST_UNDONE * WIDTH);
                past = MOST_UNDONE - 1;
            }
            System.arraycopy(rows, past * WIDTH, rows, (past + 1) * WIDTH, WIDTH);
            past++;
        }

        boolean stepBack() {
            if (past <= 0) return false;
            past--;
            return true;
        }

        int year() {
            return cell(YEAR);
        }

        int heat(int t) {
            return cell(HEATS + t);
        }

        int place(int t) {
            return cell(PLACES + t);
        }

        int owner(int t) {
            return cell(OWNERS + t);
        }

        void setYear(int year) {
            setCell(YEAR, year);
        }

        void setHeat(int t, int heat) {
            setCell(HEATS + t, heat);
        }

        void setPlace(int t, int n) {
            setCell(PLACES + t, n);
        }

        void setOwner(int t, int owner) {
            setCell(OWNERS + t, owner);
        }

        int ring(int t) {
            int at = owner(t);
            int size = 1;
            while (at != t && size < MOST_TEMPERS) {
                at = owner(at);
                size++;
            }
            return size;
        }

        /** A RING of s wants s - 1 MIXES: all TEMPERS less all RINGS. */
        int mixesToRight(int tempers) {
            int fewest = 0;
            for (int t = 0; t < tempers; t++) {
                if (!isLowestOfRing(t)) fewest++;
            }
            return fewest;
        }

        private boolean isLowestOfRing(int t) {
            int at = owner(t);
            for (int i = 0; i < MOST_TEMPERS; i++) {
                if (at < t) return false;
                at = owner(at);
            }
            return true;
        }

        private int cell(int at) {
            int index = past * WIDTH + at;
            return index >= 0 && index < rows.length ? rows[index] : 0;
        }

        private void setCell(int at, int value) {
            int index = past * WIDTH + at;
            if (index >= 0 && index < rows.length) rows[index] = value;
        }
    }

    /** What was told and what is NOW, seen together. */
    private static final class House {
        final Hill told;
        final Course course;

        House(Hill told, Course course) {
            this.told = told;
            this.course = course;
        }

        int broken() {
            int bits = 0;
            for (int t = 0; t < told.tempers; t++) {
                if (course.heat(t) == 0) bits |= bit(t);
            }
            return bits;
        }

        int heatOfAll() {
            int heat = 0;
            for (int t = 0; t < told.tempers; t++) heat += course.heat(t);
            return heat;
        }

        int thoseWith(int n) {
            int bits = 0;
            for (int t = 0; t < told.tempers; t++) {
                if (course.place(t) == n) bits |= bit(t);
            }
            return bits;
        }

        int thoseThatMayBeSentTo(int n) {
            int bits = 0;
            for (int t = 0; t < told.tempers; t++) {
                if (mayBeSent(t, n)) bits |= bit(t);
            }
            return bits;
        }

        boolean mayBeSent(int t, int n) {
            return course.place(t) != n && mayJoin(t, n, thoseWith(n));
        }

        /** Whether a NURSE who has some already (bits, without this one) can have this one, too. */
        boolean mayJoin(int t, int n, int some) {
            if (!told.hasTemper(t) || !told.hasNurse(n)) return false;
            return course.heat(t) <= told.holds[n]
                && Integer.bitCount(some) < told.rooms[n]
                && (some & told.clashes[t]) == 0;
        }

        int heatIn(int t, int years) {
            if (!told.hasTemper(t)) return 0;
            int n = course.place(t);
            int tames = told.hasNurse(n) ? told.tames[n] : 0;
            int heat = course.heat(t);
            for (int i = 0; i < years && i < MOST_YEARS_AHEAD; i++) {
                heat = heatNextYear(heat, told.grows[t], tames);
            }
            return heat;
        }

        int yearsTillBroken(int t, int n) {
            if (!told.hasTemper(t) || !told.hasNurse(n)) return NONE;
            int heat = course.heat(t);
            for (int years = 0; years <= MOST_YEARS_AHEAD; years++) {
                if (heat == 0) return years;
                heat = heatNextYear(heat, told.grows[t], told.tames[n]);
            }
            return NONE;
        }

        int worthOfFetching(int t, int years) {
            if (!told.hasTemper(t)) return 0;
            int worth = Math.max(0, FETCH_WORTH - heatIn(t, years)) - YEAR_COST * years;
            return course.year() + years > told.dues[t] ? worth - LATE_COST : worth;
        }

        private static int heatNextYear(int heat, int grows, int tames) {
            if (heat == 0) return 0;
            return Math.max(0, Math.min(MOST_HEAT, heat + grows) - tames);
        }
    }

    /** PLAN and SOONEST: the ways are gone through in their order, those that can't be better left out. */
    private static final class Planner {
        private static final int TOO_LATE = MOST_YEARS_AHEAD + 1;

        private final House house;
        private final int[] tried = new int[MOST_TEMPERS];
        private final int[] having = new int[MOST_NURSES];
        private final int[] yearsBy = new int[MOST_NURSES * MOST_TEMPERS];
        private int fewestYears;
        final int[] chosen = new int[MOST_TEMPERS];
        int most;

        Planner(House house) {
            this.house = house;
        }

        void findPlan() {
            most = -1;
            Arrays.fill(having, 0);
            tryPlaces(0, 0);
        }

        int soonest() {
            for (int t = 0; t < house.told.tempers; t++) {
                for (int n = 0; n < house.told.nurses; n++) {
                    yearsBy[n * MOST_TEMPERS + t] = house.yearsTillBroken(t, n);
                }
            }
            fewestYears = TOO_LATE;
            Arrays.fill(having, 0);
            tryYears(0, 0);
            return fewestYears == TOO_LATE ? NONE : fewestYears;
        }

        private void tryPlaces(int t, int sent) {
            if (sent + house.told.tempers - t <= most) return;
            if (t >= house.told.tempers || t >= MOST_TEMPERS) {
                most = sent;
                System.arraycopy(tried, 0, chosen, 0, MOST_TEMPERS);
                return;
            }
            for (int n = 0; n < house.told.nurses; n++) {
                int some = having[n];
                if (!house.mayJoin(t, n, some)) continue;
                having[n] = some | bit(t);
                tried[t] = n;
                tryPlaces(t + 1, sent + 1);
                having[n] = some;
            }
            tried[t] = NONE;
            tryPlaces(t + 1, sent);
        }

        private void tryYears(int t, int years) {
            if (years >= fewestYears) return;
            if (t >= house.told.tempers || t >= MOST_TEMPERS) {
                fewestYears = years;
                return;
            }
            if (house.course.heat(t) == 0) {
                tryYears(t + 1, years);
                return;
            }
            for (int n = 0; n < house.told.nurses; n++) {
                int some = having[n];
                int wanted = yearsBy[n * MOST_TEMPERS + t];
                if (wanted == NONE || wanted >= fewestYears || !house.mayJoin(t, n, some)) continue;
                having[n] = some | bit(t);
                tryYears(t + 1, Math.max(years, wanted));
                having[n] = some;
            }
        }
    }

    /** BEDS: the ways are gone through in their order. */
    private static final class BedMaker {
        private final House house;
        private final int[] tried = new int[MOST_TEMPERS];
        private int limit;
        final int[] chosen = new int[MOST_TEMPERS];
        int most;

        BedMaker(House house) {
            this.house = house;
        }

        void makeBeds(int heatLimit) {
            limit = heatLimit;
            most = -1;
            Arrays.fill(tried, NONE);
            tryOthers(0, 0);
        }

        private void tryOthers(int t, int made) {
            if (t >= house.told.tempers || t >= MOST_TEMPERS) {
                if (made > most) {
                    most = made;
                    System.arraycopy(tried, 0, chosen, 0, MOST_TEMPERS);
                }
                return;
            }
            if (tried[t] != NONE) {
                tryOthers(t + 1, made);
                return;
            }
            for (int other = t + 1; other < house.told.tempers; other++) {
                if (tried[other] != NONE || !mayShare(t, other)) continue;
                tried[t] = other;
                tried[other] = t;
                tryOthers(t + 1, made + 1);
                tried[t] = NONE;
                tried[other] = NONE;
            }
            tryOthers(t + 1, made);
        }

        private boolean mayShare(int a, int b) {
            return (house.told.clashes[a] & bit(b)) == 0
                && house.course.heat(a) + house.course.heat(b) <= limit;
        }
    }

    /** HEARD, WHOSE, ASK: what was HEARD is held against the HEATS of NOW. */
    private static final class Listener {
        private final House house;
        private final int[] bangsAt = new int[MOST_HEARD];
        private final int[] bangs = new int[MOST_HEARD];
        int heard;

        Listener(House house) {
            this.house = house;
        }

        boolean append(int b, int itBangs) {
            if (heard >= MOST_HEARD) return false;
            bangsAt[heard] = b;
            bangs[heard] = itBangs;
            heard++;
            return true;
        }

        int empty() {
            int had = heard;
            heard = 0;
            return had;
        }

        int suspects() {
            int bits = 0;
            for (int t = 0; t < house.told.tempers; t++) {
                if (isAsHeard(house.course.heat(t))) bits |= bit(t);
            }
            return bits;
        }

        int nextBang() {
            int suspects = suspects();
            int all = Integer.bitCount(suspects);
            int leastPart = all;
            int chosen = NONE;
            for (int b = 0; b <= MOST_BANG; b++) {
                int banging = countBanging(suspects, b);
                int greaterPart = Math.max(banging, all - banging);
                if (greaterPart < leastPart) {
                    leastPart = greaterPart;
                    chosen = b;
                }
            }
            return chosen;
        }

        private int countBanging(int suspects, int b) {
            int banging = 0;
            for (int t = 0; t < house.told.tempers; t++) {
                if ((suspects & bit(t)) != 0 && house.course.heat(t) >= b) banging++;
            }
            return banging;
        }

        private boolean isAsHeard(int heat) {
            for (int i = 0; i < heard && i < MOST_HEARD; i++) {
                boolean wouldBang = heat >= bangsAt[i];
                if (wouldBang != (bangs[i] == 1)) return false;
            }
            return true;
        }
    }

    /** MARKS by KINDS: each body comes to THE TRACE when it is asked. */
    private static final class Kinds {
        private final House house;
        long traced;

        Kinds(House house) {
            this.house = house;
        }

        int asTemper(int t) {
            traced += 1;
            return house.course.heat(t);
        }

        int asRage(int t) {
            traced += 10;
            return asTemper(t) + (house.told.hasTemper(t) ? house.told.grows[t] : 0);
        }

        int asSulk(int t) {
            traced += 100;
            return asTemper(t) - Integer.bitCount(house.broken());
        }

        int asStorm(int t) {
            traced += 1000;
            return asRage(t) * 2;
        }

        int asGrudge(int t) {
            traced += 10000;
            return asSulk(t) + t;
        }

        int asPet(int t) {
            traced += 100000;
            return asTemper(t) + house.course.year();
        }
    }
}
