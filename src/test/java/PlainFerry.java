import java.util.ArrayList;
import java.util.Arrays;
import java.util.HashSet;
import java.util.List;
import java.util.Set;

/** The document done the long way, minute by minute and row by row: what ModelTest holds OatFerry against. */
final class PlainFerry {
    private static final int NONE = -1, UNKNOWN = -1000000001, OUTSIDE = -1000000002, NOT = -1000000003, FULL = -1000000004;

    /** A ferry as told. */
    private static final class Told {
        int law = NONE, places = 0, broad = 0, due = 60;
        boolean dueTold = false;
        List<int[]> horses = new ArrayList<>();
        Set<Integer> blind = new HashSet<>();
        List<int[]> besides = new ArrayList<>();
        List<Integer> tides = new ArrayList<>();
        List<Integer> carts = new ArrayList<>();
    }

    private static final class Fault extends Exception {
        private static final long serialVersionUID = 1L;
        final int kind, where;

        Fault(int kind, int where) {
            this.kind = kind;
            this.where = where;
        }
    }

    private record Piece(String text, int where) {
        boolean isNumber() {
            return !text.isEmpty() && Character.isDigit(text.charAt(0));
        }
    }

    private record Outcome(int minutes, int oats, int[] strengths) {
        boolean over() {
            return minutes != NONE;
        }
    }

    private record Time(int[] who, int hour, int minutes) {
    }

    private record Image(int hour, int[] strengths, int[] stands, int oats, int missed, long seed) {
    }

    private final StringBuilder text = new StringBuilder();
    private Told told = new Told();
    private int faultAt = NONE;
    private int hour = 0, oats = 0, missed = 0;
    private long seed = 0;
    private int[] strengths = {};
    private int[] stands = {};
    private final List<Time> times = new ArrayList<>();
    private final Image[] images = new Image[2];

    // ---- the text

    int feed(int n, long bytes) {
        if (n < 1 || n > 8) {
            return OUTSIDE;
        }
        if (text.length() + n > 500) {
            return FULL;
        }
        for (int i = n - 1; i >= 0; i--) {
            text.append((char) (bytes >> 8 * i & 255));
        }
        return text.length();
    }

    int ferry() {
        String all = text.toString();
        text.setLength(0);
        try {
            told = new Parse(all).whole();
        } catch (Fault f) {
            faultAt = f.where;
            return -10 - f.kind;
        }
        faultAt = NONE;
        hour = oats = missed = 0;
        strengths = full();
        stands = new int[told.places];
        Arrays.fill(stands, NONE);
        times.clear();
        images[0] = images[1] = null;
        return told.places;
    }

    private int[] full() {
        return told.horses.stream().mapToInt(h -> h[1]).toArray();
    }

    private static final class Parse {
        final List<Piece> pieces = new ArrayList<>();
        final Told into = new Told();
        int next = 0;

        Parse(String all) {
            java.util.regex.Matcher m = java.util.regex.Pattern.compile("[a-z]+|[0-9]+|[^ ]", java.util.regex.Pattern.DOTALL).matcher(all);
            while (m.find()) {
                pieces.add(new Piece(m.group(), m.start()));
            }
            pieces.add(new Piece("", all.length()));
        }

        Told whole() throws Fault {
            while (next < pieces.size() - 1) {
                clause();
            }
            return into;
        }

        Piece take() {
            return pieces.get(next++);
        }

        void sign(String due) throws Fault {
            if (!pieces.get(next).text.equals(due)) {
                throw new Fault(1, pieces.get(next).where);
            }
            next++;
        }

        int number(int least, int most) throws Fault {
            Piece p = take();
            if (!p.isNumber()) {
                throw new Fault(1, p.where);
            }
            if (p.text.length() > 3 || Integer.parseInt(p.text) < least || Integer.parseInt(p.text) > most) {
                throw new Fault(2, p.where);
            }
            return Integer.parseInt(p.text);
        }

        int horse() throws Fault {
            return number(0, into.horses.size() - 1);
        }

        void clause() throws Fault {
            Piece word = take();
            List<String> words = List.of("belt", "horse", "blind", "beside", "tide", "cart", "due");
            if (!words.contains(word.text) || into.places == 0 && !word.text.equals("belt")) {
                throw new Fault(1, word.where);
            }
            boolean again = switch (word.text) {
                case "belt" -> into.places > 0;
                case "horse" -> into.horses.size() == 6;
                case "beside" -> into.besides.size() == 12;
                case "tide" -> !into.tides.isEmpty();
                case "cart" -> into.carts.size() == 4;
                case "due" -> into.dueTold;
                default -> false;
            };
            if (again) {
                throw new Fault(3, word.where);
            }
            switch (word.text) {
                case "belt" -> belt();
                case "horse" -> into.horses.add(new int[] {number(1, 30), number(1, 200), number(0, 60)});
                case "blind" -> blind();
                case "beside" -> beside();
                case "tide" -> tide();
                case "cart" -> into.carts.add(number(0, 60));
                default -> {
                    into.due = number(1, 120);
                    into.dueTold = true;
                }
            }
            sign(";");
        }

        void belt() throws Fault {
            Piece law = take();
            into.law = List.of("sum", "slowest").indexOf(law.text);
            if (into.law < 0) {
                throw new Fault(1, law.where);
            }
            into.places = number(1, 3);
            into.broad = number(1, 999);
        }

        void blind() throws Fault {
            int where = pieces.get(next).where;
            if (!into.blind.add(horse())) {
                throw new Fault(4, where);
            }
        }

        void beside() throws Fault {
            int a = horse();
            int where = pieces.get(next).where;
            int b = horse();
            if (a == b || into.besides.stream().anyMatch(t -> t[0] == a && t[1] == b)) {
                throw new Fault(4, where);
            }
            into.besides.add(new int[] {a, b, number(0, 10) - 5});
        }

        void tide() throws Fault {
            into.tides.add(number(0, 40));
            while (pieces.get(next).text.equals(",") && into.tides.size() < 12) {
                next++;
                into.tides.add(number(0, 40));
            }
        }
    }

    int fault() {
        return faultAt;
    }

    int told(int what) {
        int lame = 0;
        for (int h = 0; h < strengths.length; h++) {
            lame |= strengths[h] == 0 ? 1 << h : 0;
        }
        int[] all = {told.places, told.law, told.broad, told.horses.size(), told.carts.size(), told.due, text.length(),
            hour, Math.min(oats, 999999999), missed, times.size(), tide(hour), lame};
        return what < 0 || what >= all.length ? OUTSIDE : all[what];
    }

    private int tide(int h) {
        return told.tides.isEmpty() ? 0 : told.tides.get(h % told.tides.size()) - 20;
    }

    private boolean isHorse(int h) {
        return h >= 0 && h < told.horses.size();
    }

    private boolean isPlace(int p) {
        return p >= 0 && p < told.places;
    }

    int horse(int h, int what) {
        if (!isHorse(h)) {
            return UNKNOWN;
        }
        if (what < 0 || what > 6) {
            return OUTSIDE;
        }
        if (what < 3) {
            return told.horses.get(h)[what];
        }
        if (what == 3) {
            return told.blind.contains(h) ? 1 : 0;
        }
        if (what == 4) {
            return strengths[h];
        }
        int p = placeOf(h);
        if (what == 5) {
            return p;
        }
        return p == NONE || strengths[h] == 0 ? 0 : pull(stands, p, told.horses.get(h)[0]);
    }

    private int placeOf(int h) {
        for (int p = 0; p < stands.length; p++) {
            if (stands[p] == h) {
                return p;
            }
        }
        return NONE;
    }

    private int mood(int a, int b) {
        return told.besides.stream().filter(t -> t[0] == a && t[1] == b).mapToInt(t -> t[2]).sum();
    }

    private int pull(int[] who, int p, int own) {
        if (told.blind.contains(who[p])) {
            return own;
        }
        int pull = own;
        for (int q = 0; q < who.length; q++) {
            if (Math.abs(p - q) == 1 && who[q] != NONE) {
                pull += mood(who[p], who[q]);
            }
        }
        return pull < 0 ? 0 : pull;
    }

    int beside(int a, int b) {
        return !isHorse(a) || !isHorse(b) || a == b ? UNKNOWN : mood(a, b);
    }

    int cart(int c) {
        return c < 0 || c >= told.carts.size() ? UNKNOWN : told.carts.get(c);
    }

    // ---- crossings

    int put(int h, int p) {
        if (!isHorse(h) || p != NONE && !isPlace(p)) {
            return UNKNOWN;
        }
        int was = placeOf(h);
        if (p != NONE && stands[p] != NONE && stands[p] != h) {
            return NOT;
        }
        if (was != NONE) {
            stands[was] = NONE;
        }
        if (p != NONE) {
            stands[p] = h;
        }
        return was;
    }

    int at(int p) {
        return isPlace(p) ? stands[p] : UNKNOWN;
    }

    private Outcome crossing(int[] who, int[] from, int atHour, int load) {
        return crossing(who, from, atHour, load, NONE, 0);
    }

    /** other: a horse that pulls otherwise, by another P, or, with 0 for it, by half. */
    private Outcome crossing(int[] who, int[] from, int atHour, int load, int other, int otherPull) {
        int[] left = from.clone();
        int come = 0;
        int eaten = 0;
        int over = NONE;
        for (int minute = 1; minute <= 120 && over == NONE; minute++) {
            int sum = 0;
            int least = 1000;
            int count = 0;
            for (int p = 0; p < who.length; p++) {
                if (who[p] == NONE) {
                    continue;
                }
                int h = who[p];
                int pull = 0;
                if (left[h] > 0) {
                    pull = pull(who, p, h == other && otherPull > 0 ? otherPull : told.horses.get(h)[0]);
                    if (h == other && otherPull == 0) {
                        pull = pull / 2;
                    }
                    left[h]--;
                    eaten += pull;
                }
                sum += pull;
                least = Math.min(least, pull);
                count++;
            }
            int pace = (told.law == 0 ? sum : least * count) + tide(atHour) - load;
            come = Math.max(0, come + pace);
            if (come >= told.broad) {
                over = minute;
            }
        }
        return new Outcome(over, eaten, left);
    }

    private int[] rested(int[] from, int hours) {
        int[] to = from.clone();
        for (int h = 0; h < to.length; h++) {
            for (int i = 0; i < hours; i++) {
                to[h] = Math.min(told.horses.get(h)[1], to[h] + told.horses.get(h)[2]);
            }
        }
        return to;
    }

    /** Strengths an hour on: those that stood as the crossing left them, the others rested. */
    private int[] behind(int[] who, Outcome o) {
        int[] to = rested(o.strengths, 1);
        for (int h : who) {
            if (h != NONE) {
                to[h] = o.strengths[h];
            }
        }
        return to;
    }

    private boolean nobody(int[] who) {
        return Arrays.stream(who).allMatch(h -> h == NONE);
    }

    private boolean noLoad(int load) {
        return load < 0 || load > 240;
    }

    int cross(int load) {
        if (noLoad(load)) {
            return OUTSIDE;
        }
        if (nobody(stands)) {
            return NOT;
        }
        Outcome o = crossing(stands, strengths, hour, load);
        oats = Math.min(999999999, oats + o.oats);
        missed += o.over() ? 0 : 1;
        strengths = behind(stands, o);
        hour++;
        return o.minutes;
    }

    int trial(int load, int what) {
        if (noLoad(load) || what < 0 || what > 1) {
            return OUTSIDE;
        }
        if (nobody(stands)) {
            return NOT;
        }
        Outcome o = crossing(stands, strengths, hour, load);
        return what == 0 ? o.minutes : o.oats;
    }

    int rest(int n) {
        if (n < 1 || n > 99) {
            return OUTSIDE;
        }
        strengths = rested(strengths, n);
        return hour += n;
    }

    private int draw(int n) {
        seed = (seed * 1103515245L + 12345L) % (1L << 31);
        return (int) (seed / 65536 % n);
    }

    int drift(int n) {
        if (n < 1 || n > 99) {
            return OUTSIDE;
        }
        if (told.places == 0 || told.horses.isEmpty()) {
            return NOT;
        }
        for (int day = 0; day < n; day++) {
            Arrays.fill(stands, NONE);
            for (int p = 0; p < told.places; p++) {
                int h = draw(told.horses.size() + 1);
                if (h < told.horses.size() && placeOf(h) == NONE) {
                    stands[p] = h;
                }
            }
            int load = draw(30);
            if (!nobody(stands)) {
                cross(load);
            }
            int hours = draw(4);
            strengths = rested(strengths, hours);
            hour += hours;
        }
        return missed;
    }

    // ---- tried

    private List<int[]> rows() {
        List<int[]> rows = new ArrayList<>();
        grow(new int[told.places], 0, rows);
        return rows;
    }

    private void grow(int[] row, int p, List<int[]> rows) {
        if (p == row.length) {
            if (!nobody(row)) {
                rows.add(row.clone());
            }
            return;
        }
        for (int h = NONE; h < told.horses.size(); h++) {
            boolean used = false;
            for (int q = 0; q < p; q++) {
                used |= h != NONE && row[q] == h;
            }
            if (!used) {
                row[p] = h;
                grow(row, p + 1, rows);
            }
        }
    }

    private int[] soonestRow(int[] from, int atHour, int load, int without) {
        int[] best = null;
        Outcome top = null;
        for (int[] row : rows()) {
            Outcome o = crossing(row, from, atHour, load);
            boolean has = Arrays.stream(row).anyMatch(h -> h == without && h != NONE);
            if (!has && o.over() && (top == null || o.minutes < top.minutes || o.minutes == top.minutes && o.oats < top.oats)) {
                best = row;
                top = o;
            }
        }
        return best;
    }

    private int soonestMinutes(int[] from, int atHour, int load, int without) {
        int[] row = soonestRow(from, atHour, load, without);
        return row == null ? 121 : crossing(row, from, atHour, load).minutes;
    }

    int soonest(int load, int p) {
        if (p != NONE && p != -2 && !isPlace(p)) {
            return UNKNOWN;
        }
        if (noLoad(load)) {
            return OUTSIDE;
        }
        int[] row = soonestRow(strengths, hour, load, NONE);
        if (row == null) {
            return NONE;
        }
        Outcome o = crossing(row, strengths, hour, load);
        return p == NONE ? o.minutes : p == -2 ? o.oats : row[p];
    }

    int cheapest(int load, int p) {
        if (p != NONE && p != -2 && !isPlace(p)) {
            return UNKNOWN;
        }
        if (noLoad(load)) {
            return OUTSIDE;
        }
        int[] best = null;
        Outcome top = null;
        for (int[] row : rows()) {
            Outcome o = crossing(row, strengths, hour, load);
            if (o.over() && o.minutes <= told.due
                    && (top == null || o.oats < top.oats || o.oats == top.oats && o.minutes < top.minutes)) {
                best = row;
                top = o;
            }
        }
        if (best == null) {
            return NONE;
        }
        return p == NONE ? top.oats : p == -2 ? top.minutes : best[p];
    }

    int twice(int load, int k, int p) {
        if (p != NONE && !isPlace(p)) {
            return UNKNOWN;
        }
        if (noLoad(load) || k < 0 || k > 1) {
            return OUTSIDE;
        }
        int least = NONE;
        int[][] best = null;
        for (int[] one : rows()) {
            Outcome first = crossing(one, strengths, hour, load);
            if (!first.over() || first.minutes > told.due) {
                continue;
            }
            int[] then = behind(one, first);
            for (int[] two : rows()) {
                Outcome second = crossing(two, then, hour + 1, load);
                if (second.over() && second.minutes <= told.due && (best == null || first.oats + second.oats < least)) {
                    least = first.oats + second.oats;
                    best = new int[][] {one, two};
                }
            }
        }
        return best == null ? NONE : p == NONE ? least : best[k][p];
    }

    int best(int load, int what) {
        if (noLoad(load) || what < 0 || what > 1) {
            return OUTSIDE;
        }
        int least = 121;
        int wait = NONE;
        for (int n = 0; n <= 11; n++) {
            int m = soonestMinutes(rested(strengths, n), hour + n, load, NONE);
            if (m < least) {
                least = m;
                wait = n;
            }
        }
        return wait == NONE ? NONE : what == 0 ? wait : least;
    }

    int worth(int load, int h) {
        if (!isHorse(h)) {
            return UNKNOWN;
        }
        if (noLoad(load)) {
            return OUTSIDE;
        }
        return soonestMinutes(strengths, hour, load, h) - soonestMinutes(strengths, hour, load, NONE);
    }

    int carts(int i) {
        int all = (1 << told.carts.size()) - 1;
        for (int n = 0; n <= told.carts.size(); n++) {
            int[] row = cartRow(n, all, strengths, hour);
            if (row != null) {
                return i == NONE ? n : i >= 0 && i < n ? row[i] : NONE;
            }
        }
        return NONE;
    }

    /** The first row of just n sets that takes all of 'left' over; null: none. */
    private int[] cartRow(int n, int left, int[] from, int atHour) {
        if (n == 0) {
            return left == 0 ? new int[0] : null;
        }
        for (int set = 1; set <= left; set++) {
            if ((set & ~left) != 0) {
                continue;
            }
            int load = 0;
            for (int c = 0; c < told.carts.size(); c++) {
                load += (set >> c & 1) * told.carts.get(c);
            }
            int[] crew = soonestRow(from, atHour, load, NONE);
            if (crew == null) {
                continue;
            }
            int[] rest = cartRow(n - 1, left & ~set, behind(crew, crossing(crew, from, atHour, load)), atHour + 1);
            if (rest != null) {
                int[] row = new int[n];
                row[0] = set;
                System.arraycopy(rest, 0, row, 1, n - 1);
                return row;
            }
        }
        return null;
    }

    // ---- told times

    int tell(int first, int second, int third, int atHour, int minutes) {
        int[] who = {first, second, third};
        Set<Integer> seen = new HashSet<>();
        for (int p = 0; p < 3; p++) {
            if (who[p] != NONE && (!isHorse(who[p]) || p >= told.places || !seen.add(who[p]))) {
                return UNKNOWN;
            }
        }
        if (atHour < 0 || atHour > 99 || minutes < 0 || minutes > 120) {
            return OUTSIDE;
        }
        if (nobody(who)) {
            return NOT;
        }
        if (times.size() == 10) {
            return FULL;
        }
        times.add(new Time(who, atHour, minutes));
        return times.size();
    }

    /** Whether a time of these could be told: for the test, no call of the document. */
    boolean canTell(int[] who, int atHour) {
        int before = times.size();
        int answer = tell(who[0], who[1], who[2], atHour, 0);
        if (answer > 0) {
            times.remove(before);
        }
        return answer > 0;
    }

    /** The minutes (0: MISSED) of a time told, if a horse pulls otherwise: for the test, no call of the document. */
    int wouldTake(int[] who, int atHour, int h, int pull) {
        Outcome o = crossing(who, full(), atHour, 0, h, pull);
        return o.over() ? o.minutes : 0;
    }

    int tear() {
        int had = times.size();
        times.clear();
        return had;
    }

    private int wrong(int h, int pull) {
        for (int t = 0; t < times.size(); t++) {
            Time time = times.get(t);
            Outcome o = crossing(time.who, full(), time.hour, 0, h, pull);
            if ((o.over() ? o.minutes : 0) != time.minutes) {
                return t;
            }
        }
        return NONE;
    }

    int pulls(int h) {
        if (!isHorse(h)) {
            return UNKNOWN;
        }
        int set = 0;
        for (int p = 1; p <= 30; p++) {
            set |= wrong(h, p) == NONE ? 1 << p - 1 : 0;
        }
        return set;
    }

    int sham() {
        int set = 0;
        for (int h = 0; h < told.horses.size(); h++) {
            set |= wrong(h, 0) == NONE ? 1 << h : 0;
        }
        return set;
    }

    int judge() {
        return wrong(NONE, 0);
    }

    // ---- draws, images

    int seed(int v) {
        if (v < 0) {
            return OUTSIDE;
        }
        int was = (int) seed;
        seed = v;
        return was;
    }

    int keep(int i) {
        if (i < 0 || i > 1) {
            return UNKNOWN;
        }
        images[i] = new Image(hour, strengths.clone(), stands.clone(), oats, missed, seed);
        return 1;
    }

    int goBack(int i) {
        if (i < 0 || i > 1) {
            return UNKNOWN;
        }
        if (images[i] == null) {
            return NOT;
        }
        hour = images[i].hour;
        strengths = images[i].strengths.clone();
        stands = images[i].stands.clone();
        oats = images[i].oats;
        missed = images[i].missed;
        seed = images[i].seed;
        return 1;
    }
}
