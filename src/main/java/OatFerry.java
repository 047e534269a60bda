import java.util.Arrays;

/** A ferry on oats: horses walk a belt that turns the paddles. DOC.md tells every word in capitals. */
public final class OatFerry {
    public static final int NONE = -1, UNKNOWN = -1000000001, OUTSIDE = -1000000002, NOT = -1000000003, FULL = -1000000004;

    private static final int MOST_BYTES = 500;
    private static final int MOST_PLACES = 3;
    private static final int MOST_HORSES = 6;
    private static final int MOST_BESIDES = 12;
    private static final int MOST_TIDES = 12;
    private static final int MOST_CARTS = 4;
    private static final int MOST_TIMES = 10;
    private static final int MOST_LOAD = 240;
    private static final int MOST_MINUTES = 120;
    private static final int MOST_OATS = 999999999;
    private static final int MOST_PULL = 30;
    private static final int MOST_WAIT = 11;
    private static final int MISSED_MINUTES = MOST_MINUTES + 1;
    private static final int SLACK_TIDE = 20;
    private static final int EVEN_MOOD = 5;
    private static final int UNTOLD_DUE = 60;
    private static final int SUM = 0;
    private static final int SLOWEST = 1;
    /** In a PLACE's stead: what decides second, the OATS of SOONEST, the minutes of CHEAPEST. */
    private static final int ASK_SECOND = -2;

    private final Boat boat;
    private final Boat draft;
    private final Reader reader;
    private final Crews crews;
    private final State now;
    private final State image0;
    private final State image1;
    private final Trials trials;
    private final Pair pair;
    private final Carting carting;
    private final Times times;

    public OatFerry() {
        boat = new Boat();
        draft = new Boat();
        reader = new Reader();
        crews = new Crews(boat);
        now = new State();
        image0 = new State();
        image1 = new State();
        trials = new Trials(boat, crews);
        pair = new Pair(boat, crews);
        carting = new Carting(boat, crews, trials);
        times = new Times(boat, crews);
    }

    // ---- the ferry

    public int feed(int n, long bytes) {
        if (n < 1 || n > 8) {
            return OUTSIDE;
        }
        if (reader.length + n > MOST_BYTES) {
            return FULL;
        }
        for (int i = n - 1; i >= 0; i--) {
            reader.append((int) (bytes >>> (8 * i)) & 255);
        }
        return reader.length;
    }

    public int ferry() {
        boolean fine = reader.read(draft);
        if (fine) {
            // Read again rather than copied: a text without a fault tells the same twice.
            reader.read(boat);
            begin();
        }
        reader.length = 0;
        return fine ? boat.places : -10 - reader.fault;
    }

    private void begin() {
        crews.fill();
        now.begin(boat);
        image0.kept = false;
        image1.kept = false;
        times.count = 0;
        forgetTried();
    }

    /** TWICE and CARTS are dear and are asked place by place, so they are kept until something changes. */
    private void forgetTried() {
        pair.known = false;
        carting.known = false;
    }

    public int fault() {
        return reader.faultAt;
    }

    public int told(int what) {
        switch (what) {
            case 0: return boat.places;
            case 1: return boat.places == 0 ? NONE : boat.law;
            case 2: return boat.broad;
            case 3: return boat.horses;
            case 4: return boat.cartCount;
            case 5: return boat.dueMinutes();
            case 6: return reader.length;
            case 7: return now.hour;
            case 8: return now.oats;
            case 9: return now.missed;
            case 10: return times.count;
            case 11: return boat.tideOf(now.hour);
            case 12: return lameSet();
            default: return OUTSIDE;
        }
    }

    private int lameSet() {
        int set = 0;
        for (int h = 0; h < boat.horses && h < MOST_HORSES; h++) {
            if (now.strength[h] == 0) {
                set |= 1 << h;
            }
        }
        return set;
    }

    public int horse(int h, int what) {
        if (!boat.hasHorse(h)) {
            return UNKNOWN;
        }
        switch (what) {
            case 0: return boat.pull[h];
            case 1: return boat.strength[h];
            case 2: return boat.back[h];
            case 3: return boat.isBlind(h) ? 1 : 0;
            case 4: return now.strength[h];
            case 5: return now.placeOf(h);
            case 6: return pullNow(h);
            default: return OUTSIDE;
        }
    }

    private int pullNow(int h) {
        int p = now.placeOf(h);
        if (p == NONE || now.strength[h] == 0) {
            return 0;
        }
        seatStanding();
        return crews.pullAt(Crews.ASKED, p);
    }

    public int beside(int a, int b) {
        if (!boat.hasHorse(a) || !boat.hasHorse(b) || a == b) {
            return UNKNOWN;
        }
        return boat.mood(a, b);
    }

    public int cart(int c) {
        return c < 0 || c >= boat.cartCount || c >= MOST_CARTS ? UNKNOWN : boat.carts[c];
    }

    // ---- crossings

    public int put(int h, int p) {
        if (!boat.hasHorse(h) || p != NONE && !boat.hasPlace(p)) {
            return UNKNOWN;
        }
        if (p != NONE && now.stands[p] != NONE && now.stands[p] != h) {
            return NOT;
        }
        int was = now.placeOf(h);
        if (was != NONE) {
            now.stands[was] = NONE;
        }
        if (p != NONE) {
            now.stands[p] = h;
        }
        return was;
    }

    public int at(int p) {
        return boat.hasPlace(p) ? now.stands[p] : UNKNOWN;
    }

    public int cross(int load) {
        if (isNoLoad(load)) {
            return OUTSIDE;
        }
        return now.isEmpty() ? NOT : crossOver(load);
    }

    private int crossOver(int load) {
        seatStanding();
        int minutes = crews.minutes(Crews.ASKED, now.strength, push(load), MOST_MINUTES);
        int walked = minutes == NONE ? MOST_MINUTES : minutes;
        int eaten = crews.oats(Crews.ASKED, now.strength, walked);
        now.oats = Math.min(MOST_OATS, now.oats + eaten);
        if (minutes == NONE) {
            now.missed++;
        }
        crews.tire(Crews.ASKED, walked, now.strength, now.strength);
        now.hour++;
        forgetTried();
        return minutes;
    }

    private void seatStanding() {
        crews.seat(Crews.ASKED, now.stands[0], now.stands[1], now.stands[2]);
    }

    private int push(int load) {
        return boat.tideOf(now.hour) - load;
    }

    private static boolean isNoLoad(int load) {
        return load < 0 || load > MOST_LOAD;
    }

    public int trial(int load, int what) {
        if (isNoLoad(load) || what < 0 || what > 1) {
            return OUTSIDE;
        }
        if (now.isEmpty()) {
            return NOT;
        }
        seatStanding();
        int minutes = crews.minutes(Crews.ASKED, now.strength, push(load), MOST_MINUTES);
        if (what == 0) {
            return minutes;
        }
        return crews.oats(Crews.ASKED, now.strength, minutes == NONE ? MOST_MINUTES : minutes);
    }

    public int rest(int n) {
        if (n < 1 || n > 99) {
            return OUTSIDE;
        }
        restAll(n);
        return now.hour;
    }

    private void restAll(int hours) {
        boat.refresh(now.strength, hours, now.strength);
        now.hour += hours;
        forgetTried();
    }

    public int drift(int n) {
        if (n < 1 || n > 99) {
            return OUTSIDE;
        }
        if (boat.places == 0 || boat.horses == 0) {
            return NOT;
        }
        for (int day = 0; day < n; day++) {
            driftDay();
        }
        return now.missed;
    }

    private void driftDay() {
        Arrays.fill(now.stands, NONE);
        for (int p = 0; p < boat.places && p < MOST_PLACES; p++) {
            int h = now.draw(boat.horses + 1);
            if (h < boat.horses && now.placeOf(h) == NONE) {
                now.stands[p] = h;
            }
        }
        int load = now.draw(30);
        if (!now.isEmpty()) {
            crossOver(load);
        }
        restAll(now.draw(4));
    }

    // ---- tried

    public int soonest(int load, int p) {
        if (p != NONE && p != ASK_SECOND && !boat.hasPlace(p)) {
            return UNKNOWN;
        }
        if (isNoLoad(load)) {
            return OUTSIDE;
        }
        if (!trials.findSoonest(now.strength, push(load), NONE)) {
            return NONE;
        }
        if (p == NONE) {
            return trials.minutes;
        }
        return p == ASK_SECOND ? trials.oats : crews.horseAt(trials.crew, p);
    }

    public int cheapest(int load, int p) {
        if (p != NONE && p != ASK_SECOND && !boat.hasPlace(p)) {
            return UNKNOWN;
        }
        if (isNoLoad(load)) {
            return OUTSIDE;
        }
        if (!trials.findCheapest(now.strength, push(load))) {
            return NONE;
        }
        if (p == NONE) {
            return trials.oats;
        }
        return p == ASK_SECOND ? trials.minutes : crews.horseAt(trials.crew, p);
    }

    public int twice(int load, int k, int p) {
        if (p != NONE && !boat.hasPlace(p)) {
            return UNKNOWN;
        }
        if (isNoLoad(load) || k < 0 || k > 1) {
            return OUTSIDE;
        }
        if (!pair.find(now.strength, now.hour, load)) {
            return NONE;
        }
        return p == NONE ? pair.oats : crews.horseAt(k == 0 ? pair.first : pair.second, p);
    }

    public int best(int load, int what) {
        if (isNoLoad(load) || what < 0 || what > 1) {
            return OUTSIDE;
        }
        if (!trials.findWait(now.strength, now.hour, load)) {
            return NONE;
        }
        return what == 0 ? trials.waitHours : trials.waitMinutes;
    }

    public int worth(int load, int h) {
        if (!boat.hasHorse(h)) {
            return UNKNOWN;
        }
        if (isNoLoad(load)) {
            return OUTSIDE;
        }
        return soonestWithout(h, load) - soonestWithout(NONE, load);
    }

    private int soonestWithout(int h, int load) {
        return trials.findSoonest(now.strength, push(load), h) ? trials.minutes : MISSED_MINUTES;
    }

    public int carts(int i) {
        carting.find(now.strength, now.hour);
        if (i == NONE) {
            return carting.crossings;
        }
        return i < 0 || i >= carting.crossings || i >= MOST_CARTS ? NONE : carting.sets[i];
    }

    // ---- told times

    public int tell(int first, int second, int third, int hour, int minutes) {
        if (!canStand(first, 0) || !canStand(second, 1) || !canStand(third, 2)
                || Crews.isOneTwice(first, second, third)) {
            return UNKNOWN;
        }
        if (hour < 0 || hour > 99 || minutes < 0 || minutes > MOST_MINUTES) {
            return OUTSIDE;
        }
        if (first == NONE && second == NONE && third == NONE) {
            return NOT;
        }
        if (times.count >= MOST_TIMES) {
            return FULL;
        }
        times.note(first, second, third, hour, minutes);
        return times.count;
    }

    private boolean canStand(int h, int p) {
        return h == NONE || boat.hasPlace(p) && boat.hasHorse(h);
    }

    public int tear() {
        int had = times.count;
        times.count = 0;
        return had;
    }

    public int pulls(int h) {
        if (!boat.hasHorse(h)) {
            return UNKNOWN;
        }
        int set = 0;
        for (int pull = 1; pull <= MOST_PULL; pull++) {
            if (times.firstWrong(h, pull) == NONE) {
                set |= 1 << (pull - 1);
            }
        }
        return set;
    }

    public int sham() {
        int set = 0;
        for (int h = 0; h < boat.horses; h++) {
            if (times.firstWrong(h, Times.HALF) == NONE) {
                set |= 1 << h;
            }
        }
        return set;
    }

    public int judge() {
        return times.firstWrong(NONE, 0);
    }

    // ---- draws, images

    public int seed(int v) {
        if (v < 0) {
            return OUTSIDE;
        }
        int was = now.seed;
        now.seed = v;
        return was;
    }

    public int keep(int i) {
        if (i < 0 || i > 1) {
            return UNKNOWN;
        }
        State image = i == 0 ? image0 : image1;
        image.copyFrom(now);
        image.kept = true;
        return 1;
    }

    public int goBack(int i) {
        if (i < 0 || i > 1) {
            return UNKNOWN;
        }
        State image = i == 0 ? image0 : image1;
        if (!image.kept) {
            return NOT;
        }
        now.copyFrom(image);
        forgetTried();
        return 1;
    }

    /** What the text tells of the ferry; nothing here changes between two texts. */
    private static final class Boat {
        int law;
        int places;
        int broad;
        int horses;
        int blinds;
        int besides;
        int tideCount;
        int cartCount;
        int due;
        long pairs;
        final int[] pull = new int[MOST_HORSES];
        final int[] strength = new int[MOST_HORSES];
        final int[] back = new int[MOST_HORSES];
        final int[] moods = new int[MOST_HORSES * MOST_HORSES];
        final int[] tides = new int[MOST_TIDES];
        final int[] carts = new int[MOST_CARTS];

        void clear() {
            law = SUM;
            places = 0;
            broad = 0;
            horses = 0;
            blinds = 0;
            besides = 0;
            tideCount = 0;
            cartCount = 0;
            due = 0;
            pairs = 0L;
            Arrays.fill(moods, 0);
        }

        boolean hasPlace(int p) {
            return p >= 0 && p < places && p < MOST_PLACES;
        }

        boolean hasHorse(int h) {
            return h >= 0 && h < horses && h < MOST_HORSES;
        }

        boolean isBlind(int h) {
            return h >= 0 && h < MOST_HORSES && (blinds >> h & 1) != 0;
        }

        int dueMinutes() {
            return due == 0 ? UNTOLD_DUE : due;
        }

        int tideOf(int hour) {
            if (tideCount <= 0 || tideCount > MOST_TIDES || hour < 0) {
                return 0;
            }
            return tides[hour % tideCount] - SLACK_TIDE;
        }

        int mood(int a, int b) {
            boolean are = a >= 0 && a < MOST_HORSES && b >= 0 && b < MOST_HORSES;
            return are ? moods[a * MOST_HORSES + b] : 0;
        }

        boolean hasPair(int a, int b) {
            return hasHorse(a) && hasHorse(b) && (pairs >> (a * MOST_HORSES + b) & 1L) != 0L;
        }

        /** What a horse pulls between two others (NONE: nobody there) by another PULL than told (0: by that). */
        int pullBetween(int h, int other, int before, int behind) {
            if (!hasHorse(h)) {
                return 0;
            }
            int own = other == 0 ? pull[h] : other;
            return isBlind(h) ? own : Math.max(0, own + mood(h, before) + mood(h, behind));
        }

        void refresh(int[] from, int hours, int[] to) {
            for (int h = 0; h < horses && h < MOST_HORSES; h++) {
                to[h] = Math.min(strength[h], from[h] + back[h] * hours);
            }
        }

        void addHorse(int itsPull, int itsStrength, int itsBack) {
            if (horses < MOST_HORSES) {
                pull[horses] = itsPull;
                strength[horses] = itsStrength;
                back[horses] = itsBack;
                horses++;
            }
        }

        void addBeside(int a, int b, int mood) {
            if (hasHorse(a) && hasHorse(b)) {
                moods[a * MOST_HORSES + b] = mood;
                pairs |= 1L << (a * MOST_HORSES + b);
                besides++;
            }
        }

        void addTide(int tide) {
            if (tideCount < MOST_TIDES) {
                tides[tideCount] = tide;
                tideCount++;
            }
        }

        void addCart(int weight) {
            if (cartCount < MOST_CARTS) {
                carts[cartCount] = weight;
                cartCount++;
            }
        }
    }

    /** THE TEXT, and how it is read: behind the first fault nothing more is looked at. */
    private static final class Reader {
        static final int CANNOT_STAND = 1;
        static final int OUT_OF_BOUNDS = 2;
        static final int TOO_MANY = 3;
        static final int AGAIN = 4;

        static final int BELT = 0;
        static final int HORSE = 1;
        static final int BLIND = 2;
        static final int BESIDE = 3;
        static final int TIDE = 4;
        static final int CART = 5;
        static final int DUE = 6;

        final int[] text = new int[MOST_BYTES];
        int length;
        int fault;
        int faultAt = NONE;
        int next;
        int numberFrom;

        void append(int one) {
            if (length < MOST_BYTES) {
                text[length] = one;
                length++;
            }
        }

        boolean read(Boat into) {
            into.clear();
            fault = 0;
            faultAt = NONE;
            next = 0;
            for (int clause = 0; clause < MOST_BYTES && fault == 0; clause++) {
                skipBlanks();
                if (next >= length) {
                    break;
                }
                readClause(into);
            }
            return fault == 0;
        }

        private void readClause(Boat into) {
            int from = next;
            int kind = kindOf(from, wordEnd(from));
            if (kind == NONE || kind != BELT && into.places == 0) {
                fail(CANNOT_STAND, from);
            } else if (isTooMany(kind, into)) {
                fail(TOO_MANY, from);
            } else {
                next = wordEnd(from);
                readParts(kind, into);
            }
        }

        private int kindOf(int from, int to) {
            if (isWord("belt", from, to)) {
                return BELT;
            }
            if (isWord("horse", from, to)) {
                return HORSE;
            }
            if (isWord("blind", from, to)) {
                return BLIND;
            }
            if (isWord("beside", from, to)) {
                return BESIDE;
            }
            if (isWord("tide", from, to)) {
                return TIDE;
            }
            if (isWord("cart", from, to)) {
                return CART;
            }
            return isWord("due", from, to) ? DUE : NONE;
        }

        private boolean isTooMany(int kind, Boat into) {
            switch (kind) {
                case BELT: return into.places > 0;
                case HORSE: return into.horses >= MOST_HORSES;
                case BESIDE: return into.besides >= MOST_BESIDES;
                case TIDE: return into.tideCount > 0;
                case CART: return into.cartCount >= MOST_CARTS;
                case DUE: return into.due != 0;
                default: return false;
            }
        }

        private void readParts(int kind, Boat into) {
            switch (kind) {
                case BELT: readBelt(into); break;
                case HORSE: readHorse(into); break;
                case BLIND: readBlind(into); break;
                case BESIDE: readBeside(into); break;
                case TIDE: readTide(into); break;
                case CART: readCart(into); break;
                default: readDue(into); break;
            }
        }

        private void readBelt(Boat into) {
            int law = readLaw();
            int places = readNumber(1, MOST_PLACES);
            int broad = readNumber(1, 999);
            readSemicolon();
            if (fault == 0) {
                into.law = law;
                into.places = places;
                into.broad = broad;
            }
        }

        private int readLaw() {
            skipBlanks();
            int from = next;
            next = wordEnd(from);
            if (isWord("sum", from, next)) {
                return SUM;
            }
            if (!isWord("slowest", from, next)) {
                fail(CANNOT_STAND, from);
            }
            return SLOWEST;
        }

        private void readHorse(Boat into) {
            int pull = readNumber(1, MOST_PULL);
            int strength = readNumber(1, 200);
            int back = readNumber(0, 60);
            readSemicolon();
            if (fault == 0) {
                into.addHorse(pull, strength, back);
            }
        }

        private void readBlind(Boat into) {
            int h = readNumber(0, into.horses - 1);
            if (into.isBlind(h)) {
                fail(AGAIN, numberFrom);
            }
            readSemicolon();
            if (fault == 0) {
                into.blinds |= 1 << h;
            }
        }

        private void readBeside(Boat into) {
            int a = readNumber(0, into.horses - 1);
            int b = readNumber(0, into.horses - 1);
            if (a == b || into.hasPair(a, b)) {
                fail(AGAIN, numberFrom);
            }
            int more = readNumber(0, 10);
            readSemicolon();
            if (fault == 0) {
                into.addBeside(a, b, more - EVEN_MOOD);
            }
        }

        private void readTide(Boat into) {
            boolean more = true;
            for (int i = 0; i < MOST_TIDES && more; i++) {
                int tide = readNumber(0, 40);
                if (fault == 0) {
                    into.addTide(tide);
                }
                more = i < MOST_TIDES - 1 && takeComma();
            }
            readSemicolon();
        }

        private void readCart(Boat into) {
            int weight = readNumber(0, 60);
            readSemicolon();
            if (fault == 0) {
                into.addCart(weight);
            }
        }

        private void readDue(Boat into) {
            int due = readNumber(1, MOST_MINUTES);
            readSemicolon();
            if (fault == 0) {
                into.due = due;
            }
        }

        /** NONE with a fault: it is like no number that is told. */
        private int readNumber(int least, int most) {
            skipBlanks();
            if (!isFigure(next)) {
                fail(CANNOT_STAND, next);
            }
            if (fault != 0) {
                return NONE;
            }
            numberFrom = next;
            int value = 0;
            for (int i = numberFrom; i < length && isFigure(i); i++) {
                value = value * 10 + text[i] - '0';
                next = i + 1;
            }
            if (next - numberFrom > 3 || value < least || value > most) {
                fail(OUT_OF_BOUNDS, numberFrom);
                return NONE;
            }
            return value;
        }

        private void readSemicolon() {
            skipBlanks();
            if (isSign(';')) {
                next++;
            } else {
                fail(CANNOT_STAND, next);
            }
        }

        private boolean takeComma() {
            skipBlanks();
            if (fault != 0 || !isSign(',')) {
                return false;
            }
            next++;
            return true;
        }

        private void skipBlanks() {
            while (next < length && next < MOST_BYTES && text[next] == ' ') {
                next++;
            }
        }

        private boolean isSign(char sign) {
            return next >= 0 && next < length && next < MOST_BYTES && text[next] == sign;
        }

        private boolean isFigure(int i) {
            return i >= 0 && i < length && i < MOST_BYTES && text[i] >= '0' && text[i] <= '9';
        }

        private boolean isLetter(int i) {
            return i >= 0 && i < length && i < MOST_BYTES && text[i] >= 'a' && text[i] <= 'z';
        }

        private int wordEnd(int from) {
            int end = from;
            for (int i = from; i < length && isLetter(i); i++) {
                end = i + 1;
            }
            return end;
        }

        private boolean isWord(String word, int from, int to) {
            if (to - from != word.length() || from < 0 || to > MOST_BYTES) {
                return false;
            }
            for (int i = 0; i < word.length(); i++) {
                if (text[from + i] != word.charAt(i)) {
                    return false;
                }
            }
            return true;
        }

        private void fail(int kind, int where) {
            if (fault == 0) {
                fault = kind;
                faultAt = where;
            }
        }
    }

    /** How things are now, or were when an IMAGE was kept. */
    private static final class State {
        int hour;
        int oats;
        int missed;
        int seed;
        boolean kept;
        final int[] strength = new int[MOST_HORSES];
        final int[] stands = new int[MOST_PLACES];

        State() {
            Arrays.fill(stands, NONE);
        }

        void begin(Boat boat) {
            hour = 0;
            oats = 0;
            missed = 0;
            System.arraycopy(boat.strength, 0, strength, 0, MOST_HORSES);
            Arrays.fill(stands, NONE);
        }

        void copyFrom(State other) {
            hour = other.hour;
            oats = other.oats;
            missed = other.missed;
            seed = other.seed;
            System.arraycopy(other.strength, 0, strength, 0, MOST_HORSES);
            System.arraycopy(other.stands, 0, stands, 0, MOST_PLACES);
        }

        boolean isEmpty() {
            return stands[0] == NONE && stands[1] == NONE && stands[2] == NONE;
        }

        int placeOf(int h) {
            for (int p = 0; p < MOST_PLACES; p++) {
                if (stands[p] == h) {
                    return p;
                }
            }
            return NONE;
        }

        int draw(int n) {
            seed = (int) (seed * 1103515245L + 12345L & 0x7fffffffL);
            return n <= 0 ? 0 : seed / 65536 % n;
        }
    }

    /** Rows of horses at places, and how a crossing goes with each of them. */
    private static final class Crews {
        /** The row that would have nobody at all is free for whichever crew is asked for. */
        static final int ASKED = 0;
        static final int FIRST = 1;
        private static final int MOST_CREWS = 229;

        int last;
        final Boat boat;
        final int[] who = new int[MOST_CREWS * MOST_PLACES];
        final int[] pull = new int[MOST_CREWS * MOST_PLACES];

        Crews(Boat boat) {
            this.boat = boat;
            Arrays.fill(who, NONE);
        }

        /** All crews that can be tried, in the order in which of like ones the first is taken. */
        void fill() {
            last = 0;
            for (int a = NONE; a < choices(0); a++) {
                for (int b = NONE; b < choices(1); b++) {
                    for (int c = NONE; c < choices(2); c++) {
                        boolean nobody = a == NONE && b == NONE && c == NONE;
                        if (!nobody && !isOneTwice(a, b, c) && last < MOST_CREWS - 1) {
                            last++;
                            seat(last, a, b, c);
                        }
                    }
                }
            }
        }

        /** A place that is not there has no choice but nobody. */
        private int choices(int p) {
            return boat.hasPlace(p) ? boat.horses : 0;
        }

        static boolean isOneTwice(int a, int b, int c) {
            return a != NONE && (a == b || a == c) || b != NONE && b == c;
        }

        private static boolean isCrew(int crew) {
            return crew >= 0 && crew < MOST_CREWS;
        }

        void seat(int crew, int a, int b, int c) {
            if (!isCrew(crew)) {
                return;
            }
            int from = crew * MOST_PLACES;
            who[from] = a;
            who[from + 1] = b;
            who[from + 2] = c;
            pull[from] = boat.pullBetween(a, 0, NONE, b);
            pull[from + 1] = boat.pullBetween(b, 0, a, c);
            pull[from + 2] = boat.pullBetween(c, 0, b, NONE);
        }

        /** The asked crew's horse h pulls as if its PULL were another. */
        void pullOtherwise(int h, int other) {
            int p = placeOf(h);
            if (p != NONE) {
                pull[p] = boat.pullBetween(h, other, horseAt(ASKED, p - 1), horseAt(ASKED, p + 1));
            }
        }

        void pullHalf(int h) {
            int p = placeOf(h);
            if (p != NONE) {
                pull[p] /= 2;
            }
        }

        private int placeOf(int h) {
            for (int p = 0; p < MOST_PLACES; p++) {
                if (h != NONE && who[p] == h) {
                    return p;
                }
            }
            return NONE;
        }

        int horseAt(int crew, int p) {
            return isCrew(crew) && p >= 0 && p < MOST_PLACES ? who[crew * MOST_PLACES + p] : NONE;
        }

        int pullAt(int crew, int p) {
            return isCrew(crew) && p >= 0 && p < MOST_PLACES ? pull[crew * MOST_PLACES + p] : 0;
        }

        boolean takes(int crew, int h) {
            return h != NONE && (horseAt(crew, 0) == h || horseAt(crew, 1) == h || horseAt(crew, 2) == h);
        }

        /**
         * Minutes until she is OVER, NONE: not within so many. The pace only changes when a horse goes
         * lame, so the minutes between are taken at once; it never rises, so she is never over sooner
         * than by the pace of now, and once it is not above 0 she never is.
         */
        int minutes(int crew, int[] strength, int push, int within) {
            if (!isCrew(crew)) {
                return NONE;
            }
            int from = crew * MOST_PLACES;
            int minute = 0;
            int come = 0;
            for (int lame = 0; lame <= MOST_PLACES; lame++) {
                int pace = pace(from, strength, minute) + push;
                if (pace <= 0) {
                    return NONE;
                }
                int over = minute + (boat.broad - come + pace - 1) / pace;
                if (over > within) {
                    return NONE;
                }
                int until = nextLame(from, strength, minute);
                if (over <= until) {
                    return over;
                }
                come += pace * (until - minute);
                minute = until;
            }
            return NONE;
        }

        private int pace(int from, int[] strength, int minute) {
            int standing = 0;
            int together = 0;
            int least = 0;
            for (int p = from; p < from + MOST_PLACES; p++) {
                int h = who[p];
                if (h >= 0 && h < MOST_HORSES) {
                    int does = strength[h] > minute ? pull[p] : 0;
                    together += does;
                    least = standing == 0 ? does : Math.min(least, does);
                    standing++;
                }
            }
            return boat.law == SLOWEST ? least * standing : together;
        }

        /** The minute behind which the next horse is lame; far off, if none will be. */
        private int nextLame(int from, int[] strength, int minute) {
            int until = MOST_MINUTES;
            for (int p = from; p < from + MOST_PLACES; p++) {
                int h = who[p];
                if (h >= 0 && h < MOST_HORSES && strength[h] > minute) {
                    until = Math.min(until, strength[h]);
                }
            }
            return until;
        }

        /** A horse eats as long as it has strength to walk. */
        int oats(int crew, int[] strength, int minutes) {
            if (!isCrew(crew)) {
                return 0;
            }
            int from = crew * MOST_PLACES;
            int eaten = 0;
            for (int p = from; p < from + MOST_PLACES; p++) {
                int h = who[p];
                if (h >= 0 && h < MOST_HORSES) {
                    eaten += pull[p] * Math.min(strength[h], minutes);
                }
            }
            return eaten;
        }

        /** Strengths behind a crossing: the crew walked, all others had an hour of rest. */
        void tire(int crew, int minutes, int[] from, int[] to) {
            for (int h = 0; h < boat.horses && h < MOST_HORSES; h++) {
                to[h] = takes(crew, h)
                        ? Math.max(0, from[h] - minutes)
                        : Math.min(boat.strength[h], from[h] + boat.back[h]);
            }
        }
    }

    /** SOONEST, CHEAPEST and WAIT; the fields tell what the latest look found. */
    private static final class Trials {
        int crew;
        int minutes;
        int oats;
        int waitHours;
        int waitMinutes;
        final Boat boat;
        final Crews crews;
        final int[] rested = new int[MOST_HORSES];

        Trials(Boat boat, Crews crews) {
            this.boat = boat;
            this.crews = crews;
        }

        boolean findSoonest(int[] strength, int push, int without) {
            crew = NONE;
            for (int c = Crews.FIRST; c <= crews.last; c++) {
                // Whoever takes longer than the best so far need not be followed to the other bank.
                int within = crew == NONE ? MOST_MINUTES : minutes;
                int m = crews.takes(c, without) ? NONE : crews.minutes(c, strength, push, within);
                if (m != NONE) {
                    int eaten = crews.oats(c, strength, m);
                    if (crew == NONE || m < minutes || eaten < oats) {
                        take(c, m, eaten);
                    }
                }
            }
            return crew != NONE;
        }

        boolean findCheapest(int[] strength, int push) {
            crew = NONE;
            for (int c = Crews.FIRST; c <= crews.last; c++) {
                int m = crews.minutes(c, strength, push, boat.dueMinutes());
                if (m != NONE) {
                    int eaten = crews.oats(c, strength, m);
                    if (crew == NONE || eaten < oats || eaten == oats && m < minutes) {
                        take(c, m, eaten);
                    }
                }
            }
            return crew != NONE;
        }

        private void take(int itsCrew, int itsMinutes, int itsOats) {
            crew = itsCrew;
            minutes = itsMinutes;
            oats = itsOats;
        }

        boolean findWait(int[] strength, int hour, int load) {
            waitHours = NONE;
            for (int hours = 0; hours <= MOST_WAIT; hours++) {
                boat.refresh(strength, hours, rested);
                boolean lands = findSoonest(rested, boat.tideOf(hour + hours) - load, NONE);
                if (lands && (waitHours == NONE || minutes < waitMinutes)) {
                    waitHours = hours;
                    waitMinutes = minutes;
                }
            }
            return waitHours != NONE;
        }
    }

    /** TWICE: a crew for this crossing and one for the next. */
    private static final class Pair {
        boolean known;
        int load;
        int first;
        int second;
        int oats;
        final Boat boat;
        final Crews crews;
        final int[] tired = new int[MOST_HORSES];

        Pair(Boat boat, Crews crews) {
            this.boat = boat;
            this.crews = crews;
        }

        boolean find(int[] strength, int hour, int itsLoad) {
            if (!known || load != itsLoad) {
                search(strength, hour, itsLoad);
                load = itsLoad;
                known = true;
            }
            return first != NONE;
        }

        private void search(int[] strength, int hour, int itsLoad) {
            int push = boat.tideOf(hour) - itsLoad;
            int nextPush = boat.tideOf(hour + 1) - itsLoad;
            first = NONE;
            for (int c = Crews.FIRST; c <= crews.last; c++) {
                int m = crews.minutes(c, strength, push, boat.dueMinutes());
                if (m != NONE) {
                    int eaten = crews.oats(c, strength, m);
                    // One that eats as much alone as the best two together cannot be better.
                    if (first == NONE || eaten < oats) {
                        crews.tire(c, m, strength, tired);
                        searchSecond(c, eaten, nextPush);
                    }
                }
            }
        }

        private void searchSecond(int itsFirst, int eatenFirst, int push) {
            for (int c = Crews.FIRST; c <= crews.last; c++) {
                int m = crews.minutes(c, tired, push, boat.dueMinutes());
                if (m != NONE) {
                    int eaten = eatenFirst + crews.oats(c, tired, m);
                    if (first == NONE || eaten < oats) {
                        first = itsFirst;
                        second = c;
                        oats = eaten;
                    }
                }
            }
        }
    }

    /** CARTS: which go over together, crossing by crossing. */
    private static final class Carting {
        boolean known;
        int crossings;
        final Boat boat;
        final Crews crews;
        final Trials trials;
        final int[] sets = new int[MOST_CARTS];
        final int[] tried = new int[MOST_CARTS];
        final int[][] strengths = new int[MOST_CARTS + 1][MOST_HORSES];

        Carting(Boat boat, Crews crews, Trials trials) {
            this.boat = boat;
            this.crews = crews;
            this.trials = trials;
        }

        void find(int[] strength, int hour) {
            if (!known) {
                crossings = NONE;
                System.arraycopy(strength, 0, strengths[0], 0, MOST_HORSES);
                takeOver(0, (1 << boat.cartCount) - 1, hour);
                known = true;
            }
        }

        /** The rows come in their order, so only a shorter one replaces what was found. */
        private void takeOver(int depth, int left, int hour) {
            if (left == 0) {
                crossings = depth;
                System.arraycopy(tried, 0, sets, 0, MOST_CARTS);
                return;
            }
            for (int set = 1; set <= left; set++) {
                boolean shorter = crossings == NONE || depth + 1 < crossings;
                if (shorter && (set & left) == set) {
                    takeSet(depth, set, left, hour);
                }
            }
        }

        private void takeSet(int depth, int set, int left, int hour) {
            if (depth < 0 || depth >= MOST_CARTS) {
                return;
            }
            int push = boat.tideOf(hour) - weight(set);
            if (trials.findSoonest(strengths[depth], push, NONE)) {
                crews.tire(trials.crew, trials.minutes, strengths[depth], strengths[depth + 1]);
                tried[depth] = set;
                takeOver(depth + 1, left - set, hour + 1);
            }
        }

        private int weight(int set) {
            int together = 0;
            for (int c = 0; c < boat.cartCount && c < MOST_CARTS; c++) {
                if ((set >> c & 1) != 0) {
                    together += boat.carts[c];
                }
            }
            return together;
        }
    }

    /** TIMES TOLD, and by what they would be so. */
    private static final class Times {
        static final int HALF = 0;

        int count;
        final Boat boat;
        final Crews crews;
        final int[] who = new int[MOST_TIMES * MOST_PLACES];
        final int[] hours = new int[MOST_TIMES];
        final int[] minutes = new int[MOST_TIMES];

        Times(Boat boat, Crews crews) {
            this.boat = boat;
            this.crews = crews;
        }

        void note(int a, int b, int c, int hour, int itsMinutes) {
            if (count < 0 || count >= MOST_TIMES) {
                return;
            }
            int from = count * MOST_PLACES;
            who[from] = a;
            who[from + 1] = b;
            who[from + 2] = c;
            hours[count] = hour;
            minutes[count] = itsMinutes;
            count++;
        }

        /** The first time told that is otherwise, if horse h (NONE: nobody) pulls by another PULL or by HALF. */
        int firstWrong(int h, int own) {
            for (int t = 0; t < count && t < MOST_TIMES; t++) {
                int from = t * MOST_PLACES;
                crews.seat(Crews.ASKED, who[from], who[from + 1], who[from + 2]);
                if (own == HALF) {
                    crews.pullHalf(h);
                } else {
                    crews.pullOtherwise(h, own);
                }
                int due = minutes[t] == 0 ? NONE : minutes[t];
                int push = boat.tideOf(hours[t]);
                if (crews.minutes(Crews.ASKED, boat.strength, push, MOST_MINUTES) != due) {
                    return t;
                }
            }
            return NONE;
        }
    }
}
