import java.lang.reflect.Array;
import java.math.BigInteger;
import java.util.ArrayList;
import java.util.HashMap;
import java.util.List;
import java.util.Map;
import java.util.regex.Matcher;
import java.util.regex.Pattern;

/**
 * The document once more, written as plainly as can be and with no care for cost: the random runs
 * hold the program against it. It shares no code with the program.
 */
final class Model {
    static final int NONE = -1, BAD = -2, NOT = -3, FULL = -4;
    private static final String ONE = "[dcr][0-5][0-5][1-9]";
    private static final String NEED = "[0-7][a-x][1-9]";
    private static final Pattern[] SHAPES = {
        Pattern.compile("(" + ONE + "(;" + ONE + "){0,7})?", Pattern.DOTALL),
        Pattern.compile("(" + NEED + "(;" + NEED + "){0,7})?", Pattern.DOTALL)};

    record One(int sort, int x, int y, int far) {
    }

    record Need(int who, int night, int much) {
    }

    record Event(int kind, int night, int furrow) {
    }

    record Seen(int night, int one, int up) {
    }

    /** All that can be told behind each night, and in all. */
    private static final class Outcome {
        final boolean[][] up = new boolean[24][8];
        final int[][] wanted = new int[24][8];
        final int[][] times = new int[24][8];
        final int[] open = new int[24];
        final int[] met = new int[8];
        final List<int[]> arrivals = new ArrayList<>();
        int wrongly = 0;

        int metInAll(int needs) {
            int n = 0;
            for (int k = 0; k < needs; k++) {
                n += met[k] == NONE ? 0 : 1;
            }
            return n;
        }

        int stood(int one) {
            int n = 0;
            for (boolean[] night : up) {
                n += night[one] ? 1 : 0;
            }
            return n;
        }

        String whoIsUp(int night) {
            StringBuilder b = new StringBuilder();
            for (boolean u : up[night]) {
                b.append(u ? '1' : '0');
            }
            return b.toString();
        }
    }

    private final StringBuilder[] texts = {new StringBuilder(), new StringBuilder()};
    private final List<Event> events = new ArrayList<>();
    private final List<Seen> sightings = new ArrayList<>();
    private final Object[] sheets = new Object[4];
    private int latest = 0;

    // ---- texts

    private int faultOf(int text) {
        String all = texts[text].toString();
        for (int p = 0; p < all.length(); p++) {
            Matcher m = SHAPES[text].matcher(all.substring(0, p + 1));
            boolean goesOn = m.matches() || m.hitEnd();
            if (!goesOn || (text == 0 && p % 5 == 2 && cellIsTaken(all, p))) {
                return p;
            }
        }
        return SHAPES[text].matcher(all).matches() ? NONE : all.length();
    }

    private static boolean cellIsTaken(String all, int yPlace) {
        String cell = all.substring(yPlace - 1, yPlace + 1);
        for (int p = 1; p < yPlace - 1; p += 5) {
            if (all.startsWith(cell, p)) {
                return true;
            }
        }
        return false;
    }

    private List<One> people() {
        List<One> list = new ArrayList<>();
        if (faultOf(0) == NONE && texts[0].length() > 0) {
            for (String s : texts[0].toString().split(";")) {
                list.add(new One("dcr".indexOf(s.charAt(0)), s.charAt(1) - '0', s.charAt(2) - '0', s.charAt(3) - '0'));
            }
        }
        return list;
    }

    private List<Need> wants() {
        List<Need> list = new ArrayList<>();
        if (faultOf(1) == NONE && texts[1].length() > 0) {
            for (String s : texts[1].toString().split(";")) {
                list.add(new Need(s.charAt(0) - '0', s.charAt(1) - 'a', s.charAt(2) - '0'));
            }
        }
        return list;
    }

    // ---- nights

    private static int wantedOn(List<Need> needs, int[] met, int one, int night) {
        int sum = 0;
        for (int k = 0; k < needs.size(); k++) {
            Need n = needs.get(k);
            if (n.who == one && n.night <= night && met[k] == NONE) {
                sum += Math.min(9, n.much + (night - n.night));
            }
        }
        return sum;
    }

    private static Outcome play(List<One> people, List<Need> needs, List<Event> events) {
        Outcome o = new Outcome();
        java.util.Arrays.fill(o.met, NONE);
        boolean[] up = new boolean[8];
        int[] times = new int[8];
        for (int night = 0; night < 24; night++) {
            for (Event e : events) {
                if (e.night != night) {
                    continue;
                }
                if (e.kind == 1) {
                    for (int one = 0; one < people.size(); one++) {
                        up[one] = up[one] && people.get(one).y != e.furrow;
                    }
                } else {
                    ploughOnce(o, people, needs, e, up, times);
                }
            }
            for (int one = 0; one < 8; one++) {
                o.up[night][one] = up[one];
                o.times[night][one] = times[one];
                o.wanted[night][one] = wantedOn(needs, o.met, one, night);
            }
            for (int k = 0; k < needs.size(); k++) {
                o.open[night] += needs.get(k).night <= night && o.met[k] == NONE ? 1 : 0;
            }
        }
        return o;
    }

    private static void ploughOnce(Outcome o, List<One> people, List<Need> needs, Event e, boolean[] up, int[] times) {
        int best = NONE;
        int most = -1;
        // By x from 0 on, so that the first with the most pull is the one of less x.
        for (int x = 0; x < 6; x++) {
            for (int one = 0; one < people.size(); one++) {
                One p = people.get(one);
                if (p.x != x || p.y != e.furrow || up[one]) {
                    continue;
                }
                int wanted = wantedOn(needs, o.met, one, e.night);
                int pull = p.sort == 0 ? wanted - p.far / 2 : p.sort == 1 ? wanted - p.far : times[one];
                if (pull > most) {
                    most = pull;
                    best = one;
                }
            }
        }
        if (best == NONE) {
            return;
        }
        if (wantedOn(needs, o.met, best, e.night) == 0) {
            o.wrongly++;
        }
        up[best] = true;
        times[best]++;
        o.arrivals.add(new int[] {e.night, best});
        for (int k = 0; k < needs.size(); k++) {
            if (needs.get(k).who == best && needs.get(k).night <= e.night && o.met[k] == NONE) {
                o.met[k] = e.night;
            }
        }
    }

    private Outcome now() {
        return play(people(), wants(), events);
    }

    private Outcome without(int set) {
        List<Event> left = new ArrayList<>();
        for (int e = 0; e < events.size(); e++) {
            if ((set & 1 << e) == 0) {
                left.add(events.get(e));
            }
        }
        return play(people(), wants(), left);
    }

    // ---- the face: the gone, needs, events

    private static boolean out(int v, int low, int high) {
        return v < low || v > high;
    }

    int type(int text, int b) {
        if (out(text, 0, 1) || out(b, 0, 255)) {
            return BAD;
        }
        if (texts[text].length() == (text == 0 ? 39 : 31)) {
            return FULL;
        }
        return texts[text].append((char) b).length();
    }

    int wipe(int text) {
        if (out(text, 0, 1)) {
            return BAD;
        }
        int n = texts[text].length();
        texts[text].setLength(0);
        return n;
    }

    int undo(int text) {
        if (out(text, 0, 1)) {
            return BAD;
        }
        if (texts[text].length() == 0) {
            return NOT;
        }
        texts[text].setLength(texts[text].length() - 1);
        return texts[text].length();
    }

    int fault(int text) {
        return out(text, 0, 1) ? BAD : faultOf(text);
    }

    int gone(int one, int what) {
        List<One> people = people();
        if (out(one, 0, people.size() - 1) || out(what, 0, 3)) {
            return BAD;
        }
        One p = people.get(one);
        return new int[] {p.sort, p.x, p.y, p.far}[what];
    }

    int need(int need, int what) {
        List<Need> needs = wants();
        if (out(need, 0, needs.size() - 1) || out(what, 0, 2)) {
            return BAD;
        }
        Need n = needs.get(need);
        return new int[] {n.who, n.night, n.much}[what];
    }

    int event(int kind, int night, int furrow) {
        if (out(kind, 0, 1) || out(night, 0, 23) || out(furrow, 0, 5)) {
            return BAD;
        }
        if (events.size() == 8) {
            return FULL;
        }
        events.add(new Event(kind, night, furrow));
        return events.size();
    }

    int back() {
        if (events.isEmpty()) {
            return NOT;
        }
        events.remove(events.size() - 1);
        return events.size();
    }

    int read(int s) {
        if (out(s, 0, 3)) {
            return BAD;
        }
        if (sheets[s] == null) {
            return found(1);
        }
        int triples = Array.getLength(sheets[s]) / 3;
        for (int k = 0; k < triples; k++) {
            if (event(Array.getInt(sheets[s], 3 * k), Array.getInt(sheets[s], 3 * k + 1), Array.getInt(sheets[s], 3 * k + 2)) < 0) {
                return k;
            }
        }
        return triples;
    }

    // ---- the face: nights

    int at(int night, int one, int what) {
        if (out(night, 0, 23) || out(one, 0, people().size() - 1) || out(what, 0, 2)) {
            return BAD;
        }
        Outcome o = now();
        return new int[] {o.up[night][one] ? 1 : 0, o.wanted[night][one], o.times[night][one]}[what];
    }

    int field(int night, int x, int y) {
        if (out(night, 0, 23) || out(x, 0, 5) || out(y, 0, 5)) {
            return BAD;
        }
        Outcome o = now();
        List<One> people = people();
        for (int one = 0; one < people.size(); one++) {
            if (o.up[night][one] && people.get(one).x == x && people.get(one).y == y) {
                return one;
            }
        }
        return NONE;
    }

    int up(int night, int what) {
        if (out(night, 0, 23) || out(what, 0, 1)) {
            return BAD;
        }
        Outcome o = now();
        return what == 1 ? o.open[night] : o.whoIsUp(night).replace("0", "").length();
    }

    int met(int need) {
        return out(need, 0, wants().size() - 1) ? BAD : now().met[need];
    }

    int stood(int one) {
        return out(one, 0, people().size() - 1) ? BAD : now().stood(one);
    }

    int wrongly() {
        return now().wrongly;
    }

    int first(int what) {
        if (out(what, 0, 1)) {
            return BAD;
        }
        List<int[]> arrivals = now().arrivals;
        return arrivals.isEmpty() ? NONE : arrivals.get(0)[what];
    }

    int gate() {
        int[] times = now().times[23];
        int best = NONE;
        for (int one = 7; one >= 0; one--) {
            if (times[one] > 0 && (best == NONE || times[one] >= times[best])) {
                best = one;
            }
        }
        return best;
    }

    int rest() {
        int bits = 0;
        for (int one = 0; one < people().size(); one++) {
            bits += now().times[23][one] == 0 ? 1 << one : 0;
        }
        return bits;
    }

    // ---- the face: plans

    private int metByOneMore(int night, int furrow) {
        List<Event> more = new ArrayList<>(events);
        more.add(new Event(0, night, furrow));
        return play(people(), wants(), more).metInAll(wants().size());
    }

    int plough(int night, int what) {
        if (out(night, 0, 23) || out(what, 0, 1)) {
            return BAD;
        }
        int best = 0;
        for (int f = 1; f < 6; f++) {
            best = metByOneMore(night, f) > metByOneMore(night, best) ? f : best;
        }
        return what == 0 ? best : metByOneMore(night, best);
    }

    int when(int furrow, int what) {
        if (out(furrow, 0, 5) || out(what, 0, 1)) {
            return BAD;
        }
        int best = 0;
        for (int n = 1; n < 24; n++) {
            best = metByOneMore(n, furrow) > metByOneMore(best, furrow) ? n : best;
        }
        return what == 0 ? best : metByOneMore(best, furrow);
    }

    int lie(int one, int what) {
        List<One> people = people();
        if (out(one, 0, people.size() - 1) || out(what, 0, 2)) {
            return BAD;
        }
        int[] best = null;
        for (int x = 0; x < 6; x++) {
            for (int y = 0; y < 6; y++) {
                List<One> moved = new ArrayList<>(people);
                moved.set(one, new One(people.get(one).sort, x, y, people.get(one).far));
                boolean shared = false;
                for (int other = 0; other < people.size(); other++) {
                    shared |= other != one && people.get(other).x == x && people.get(other).y == y;
                }
                Outcome o = play(moved, wants(), events);
                if (!shared && o.times[23][one] > 0 && (best == null || o.stood(one) < best[2])) {
                    best = new int[] {x, y, o.stood(one)};
                }
            }
        }
        return best == null ? NONE : best[what];
    }

    int spare(int i) {
        if (out(i, -1, 1)) {
            return BAD;
        }
        List<int[]> rows = new ArrayList<>();
        rows.add(new int[] {});
        for (int a = 0; a < events.size(); a++) {
            rows.add(new int[] {a});
        }
        for (int a = 0; a < events.size(); a++) {
            for (int b = a + 1; b < events.size(); b++) {
                rows.add(new int[] {a, b});
            }
        }
        for (int[] row : rows) {
            int set = 0;
            for (int e : row) {
                set |= 1 << e;
            }
            if (without(set).wrongly == 0) {
                return i == NONE ? row.length : i < row.length ? row[i] : NONE;
            }
        }
        return NONE;
    }

    // ---- the face: seen, chance, years

    int seen(int night, int one, int up) {
        if (out(night, 0, 23) || out(one, 0, 7) || out(up, 0, 1)) {
            return BAD;
        }
        if (sightings.size() == 8) {
            return FULL;
        }
        sightings.add(new Seen(night, one, up));
        return sightings.size();
    }

    int forget() {
        int n = sightings.size();
        sightings.clear();
        return n;
    }

    private boolean comesOut(Outcome o) {
        int people = people().size();
        return sightings.stream().allMatch(s -> s.one < people && (o.up[s.night][s.one] ? 1 : 0) == s.up);
    }

    int never() {
        int bits = 0;
        for (int e = 0; e < events.size(); e++) {
            bits += comesOut(without(1 << e)) ? 1 << e : 0;
        }
        return bits;
    }

    private Outcome with(int one, int sort, int far) {
        List<One> people = people();
        One p = people.get(one);
        people.set(one, new One(sort, p.x, p.y, far));
        return play(people, wants(), events);
    }

    int was(int one, int what) {
        if (out(one, 0, people().size() - 1) || out(what, 0, 1)) {
            return BAD;
        }
        One p = people().get(one);
        int bits = 0;
        for (int sort = 0; sort < 3 && what == 0; sort++) {
            bits += comesOut(with(one, sort, p.far)) ? 1 << sort : 0;
        }
        for (int far = 1; far <= 9 && what == 1; far++) {
            bits += comesOut(with(one, p.sort, far)) ? 1 << far : 0;
        }
        return bits;
    }

    int ask(int one) {
        if (out(one, 0, people().size() - 1)) {
            return BAD;
        }
        int sort = people().get(one).sort;
        int best = 0;
        int least = 99;
        for (int night = 0; night < 24; night++) {
            Map<String, Integer> classes = new HashMap<>();
            for (int far = 1; far <= 9; far++) {
                Outcome o = with(one, sort, far);
                if (comesOut(o)) {
                    classes.merge(o.whoIsUp(night), 1, Integer::sum);
                }
            }
            int greatest = classes.values().stream().mapToInt(v -> v).max().orElse(0);
            if (greatest < least) {
                least = greatest;
                best = night;
            }
        }
        return best;
    }

    long chance(int c, int need, int what) {
        if (out(c, 0, 16) || out(need, 0, wants().size() - 1) || out(what, 0, 1)) {
            return Long.MIN_VALUE + 2;
        }
        BigInteger above = BigInteger.ZERO;
        for (int set = 0; set < 1 << events.size(); set++) {
            if (without(set).met[need] != NONE) {
                int not = Integer.bitCount(set);
                above = above.add(BigInteger.valueOf(16 - c).pow(not)
                    .multiply(BigInteger.valueOf(c).pow(events.size() - not)));
            }
        }
        BigInteger below = BigInteger.valueOf(16).pow(events.size());
        BigInteger shared = above.gcd(below);
        return (what == 0 ? above : below).divide(shared).longValueExact();
    }

    int years(int seed, int n, int what) {
        if (out(n, 0, 8) || out(what, 0, 1)) {
            return BAD;
        }
        List<Event> lots = new ArrayList<>();
        // Unsigned arithmetic in longs, where the program wraps ints.
        long s = seed & 0xFFFFFFFFL;
        for (int k = 0; k < n; k++) {
            int[] lot = new int[3];
            int[] modulo = {2, 24, 6};
            for (int j = 0; j < 3; j++) {
                s = (1103515245L * s + 12345L) & 0xFFFFFFFFL;
                lot[j] = (int) ((s >> 16) % modulo[j]);
            }
            lots.add(new Event(lot[0], lot[1], lot[2]));
        }
        Outcome o = play(people(), wants(), lots);
        return what == 0 ? o.metInAll(wants().size()) : o.wrongly;
    }

    // ---- the face: sheets

    private int found(int number) {
        latest = number;
        return -10 - number;
    }

    private int formOf(Object row) {
        return row instanceof byte[] ? 0 : row instanceof short[] ? 1 : 2;
    }

    private void store(Object row, int i, int v) {
        if (row instanceof byte[] bytes) {
            bytes[i] = (byte) v;
        } else if (row instanceof short[] shorts) {
            shorts[i] = (short) v;
        } else {
            ((int[]) row)[i] = v;
        }
    }

    int sheet(int s, int form, int n) {
        if (out(s, 0, 3) || out(form, 0, 2) || n > 60) {
            return BAD;
        }
        if (n < 0) {
            return found(5);
        }
        sheets[s] = form == 0 ? new byte[n] : form == 1 ? new short[n] : new int[n];
        return n;
    }

    int lose(int s) {
        if (out(s, 0, 3)) {
            return BAD;
        }
        if (sheets[s] == null) {
            return found(1);
        }
        int n = Array.getLength(sheets[s]);
        sheets[s] = null;
        return n;
    }

    private int refusal(int s, int form, int i) {
        if (out(s, 0, 3) || out(form, 0, 2)) {
            return BAD;
        }
        if (sheets[s] == null) {
            return found(1);
        }
        if (formOf(sheets[s]) != form) {
            return found(3);
        }
        return out(i, 0, Array.getLength(sheets[s]) - 1) ? found(2) : 1;
    }

    int put(int s, int form, int i, int v) {
        int r = refusal(s, form, i);
        if (r == 1) {
            store(sheets[s], i, v);
        }
        return r;
    }

    int get(int s, int form, int i) {
        return refusal(s, form, i) == 1 ? Array.getInt(sheets[s], i) : Integer.MIN_VALUE;
    }

    int copy(int s, int i, int t, int j, int n) {
        if (out(s, 0, 3) || out(t, 0, 3)) {
            return BAD;
        }
        if (sheets[s] == null || sheets[t] == null) {
            return found(1);
        }
        if (formOf(sheets[s]) != formOf(sheets[t])) {
            return found(4);
        }
        if (i < 0 || j < 0 || n < 0 || (long) i + n > Array.getLength(sheets[s])
            || (long) j + n > Array.getLength(sheets[t])) {
            return found(2);
        }
        int[] held = new int[n];
        for (int k = 0; k < n; k++) {
            held[k] = Array.getInt(sheets[s], i + k);
        }
        for (int k = 0; k < n; k++) {
            store(sheets[t], j + k, held[k]);
        }
        return 1;
    }

    int write(int one, int s) {
        if (out(one, 0, people().size() - 1) || out(s, 0, 3)) {
            return BAD;
        }
        if (sheets[s] == null) {
            return found(1);
        }
        int n = Math.min(24, Array.getLength(sheets[s]));
        for (int night = 0; night < n; night++) {
            store(sheets[s], night, at(night, one, 1));
        }
        return n;
    }

    int count(int what) {
        if (out(what, 0, 8)) {
            return BAD;
        }
        Outcome o = now();
        return new int[] {people().size(), wants().size(), texts[0].length(), texts[1].length(), events.size(),
            o.metInAll(wants().size()), o.wrongly, sightings.size(), latest}[what];
    }

    long digest() {
        List<Long> row = new ArrayList<>();
        for (int what = 0; what <= 7; what++) {
            row.add((long) count(what));
        }
        row.add((long) fault(0));
        row.add((long) fault(1));
        for (int k = 0; k < wants().size(); k++) {
            for (int what = 0; what <= 2; what++) {
                row.add((long) need(k, what));
            }
            row.add((long) met(k));
            row.add(chance(5, k, 0));
            row.add(chance(5, k, 1));
        }
        for (int one = 0; one < people().size(); one++) {
            addOne(row, one);
        }
        for (int night = 0; night <= 23; night++) {
            row.add((long) up(night, 0));
            row.add((long) up(night, 1));
        }
        for (int furrow = 0; furrow <= 5; furrow++) {
            row.add((long) when(furrow, 0));
            row.add((long) when(furrow, 1));
        }
        int[] last = {first(0), first(1), gate(), rest(), plough(8, 0), plough(8, 1), spare(NONE), spare(0),
            never(), years(7, 6, 0), years(7, 6, 1)};
        for (int v : last) {
            row.add((long) v);
        }
        long h = 17;
        for (long v : row) {
            h = 31 * h + v;
        }
        return h;
    }

    private void addOne(List<Long> row, int one) {
        for (int what = 0; what <= 3; what++) {
            row.add((long) gone(one, what));
        }
        for (int night : new int[] {0, 7, 15, 23}) {
            for (int what = 0; what <= 2; what++) {
                row.add((long) at(night, one, what));
            }
        }
        row.add((long) stood(one));
        for (int what = 0; what <= 2; what++) {
            row.add((long) lie(one, what));
        }
        row.add((long) was(one, 0));
        row.add((long) was(one, 1));
        row.add((long) ask(one));
    }
}
