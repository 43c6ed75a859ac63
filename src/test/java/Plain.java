import java.util.ArrayList;
import java.util.Arrays;
import java.util.List;
import java.util.regex.Matcher;
import java.util.regex.Pattern;

/** The document once more, in slow and plain words: what each call is due to answer. */
final class Plain {
    private static final int NONE = -1, UNKNOWN = -101, OUTSIDE = -102, STATE = -103, FULL = -104;
    private static final String FACTOR = "!*[dek][<=>][0-9]{1,2}";
    private static final Pattern LAW = Pattern.compile("([JBSC]):([0-9]{1,2})(?:\\?(" + FACTOR + "(?:[&|]" + FACTOR + ")*))?");

    private static final int[] ENDS = ends();
    private static final List<int[]> SETS = sets();

    private final int[] owner = new int[128];
    private final List<int[]> marks = new ArrayList<>();
    private final List<List<String>> laws = List.of(new ArrayList<>(), new ArrayList<>());
    private final List<int[]> beasts = new ArrayList<>();
    private final List<int[]> claims = new ArrayList<>();
    private String page = "";
    private int speed = 2;
    private int floor;

    Plain() {
        Arrays.fill(owner, NONE);
    }

    private static boolean in(long x, long from, long to) {
        return x >= from && x <= to;
    }

    private static boolean land(int x) {
        return in(x, 0, 5);
    }

    private static boolean two(int a, int b) {
        return land(a) && land(b) && a != b;
    }

    int cell(int land, int cell) {
        if (!in(land, -1, 5) || !in(cell, 0, 127)) return UNKNOWN;
        for (int[] m : marks) if (m[1] == cell) return STATE;
        int was = owner[cell];
        owner[cell] = land;
        return was;
    }

    int run(int land, int row, int column, int many) {
        if (!land(land) || !in(row, 0, 7) || !in(column, 0, 15)) return UNKNOWN;
        if (!in(many, 1, 16)) return OUTSIDE;
        int did = 0;
        for (int i = 0; i < many; i++) {
            int c = 16 * row + (column + i) % 16;
            if (owner[c] == NONE) {
                owner[c] = land;
                did++;
            }
        }
        return did;
    }

    int land(int land, int what) {
        if (!land(land)) return UNKNOWN;
        if (!in(what, 0, 2)) return OUTSIDE;
        int many = 0, least = NONE, on = 0;
        for (int c = 127; c >= 0; c--) {
            if (owner[c] == land) {
                many++;
                least = c;
            }
        }
        for (int[] m : marks) if (owner[m[1]] == land) on++;
        return what == 0 ? many : what == 1 ? least : on;
    }

    int mark(int kind, int cell, int n) {
        if (!in(cell, 0, 127) || owner[cell] == NONE) return UNKNOWN;
        if (!in(kind, 0, 5) || !in(n, 0, 15)) return OUTSIDE;
        if (marks.size() == 40) return FULL;
        marks.add(new int[] {kind, cell, n});
        return marks.size() - 1;
    }

    private boolean noMark(int mark) {
        return !in(mark, 0, marks.size() - 1);
    }

    int as(int mark, int kind) {
        if (noMark(mark)) return UNKNOWN;
        if (!in(kind, 0, 5)) return OUTSIDE;
        int own = marks.get(mark)[0];
        return own == kind || kind == 0 || own == 5 && kind == 2 ? mark : NONE;
    }

    private static int weight(int kind) {
        switch (kind) {
            case 1: return 3;
            case 2: return 2 * weight(0) + 2;
            case 4: return 0;
            case 5: return weight(2) / 2;
            default: return 1;
        }
    }

    int about(int mark, int what) {
        if (noMark(mark)) return UNKNOWN;
        if (!in(what, 0, 3)) return OUTSIDE;
        return what == 3 ? weight(marks.get(mark)[0]) : marks.get(mark)[what];
    }

    private static boolean on(int[] a, int[] b) {
        if (a[0] != b[0] || a[0] == 4) return false;
        if (a[0] == 1) return Math.abs(a[2] - b[2]) < 2;
        return a[0] == 3 ? a[2] % 4 == b[2] % 4 : a[2] == b[2];
    }

    int goesOn(int a, int b) {
        if (noMark(a) || noMark(b)) return UNKNOWN;
        return on(marks.get(a), marks.get(b)) ? 1 : 0;
    }

    int drop() {
        if (marks.isEmpty()) return STATE;
        marks.remove(marks.size() - 1);
        return marks.size();
    }

    /** The cell of land b put by (u, v); NONE, if it leaves the rows. */
    private static int moved(int cell, int u, int v) {
        int row = cell / 16 + u;
        return in(row, 0, 7) ? 16 * row + (cell % 16 + v) % 16 : NONE;
    }

    /** Which cells the land has, put by (u, v); null, if one leaves the rows. */
    private boolean[] cells(int land, int u, int v) {
        boolean[] has = new boolean[128];
        for (int c = 0; c < 128; c++) {
            if (owner[c] == land) {
                int to = moved(c, u, v);
                if (to == NONE) return null;
                has[to] = true;
            }
        }
        return has;
    }

    private static boolean sideBySide(int c, int d) {
        return c / 16 == d / 16 && ((c + 1) % 16 == d % 16 || (d + 1) % 16 == c % 16);
    }

    /** OVERLAP, TOUCH, GAP, COST, COUNTS. */
    private static int[] fitOf(boolean[] a, boolean[] b) {
        int overlap = 0, touch = 0, gap = 0;
        for (int c = 0; c < 128; c++) {
            if (a[c] && b[c]) overlap++;
            for (int d = 0; a[c] && d < 128; d++) {
                if (b[d] && sideBySide(c, d)) touch++;
            }
            if (a[c] || b[c]) {
                int length = 0;
                int at = c / 16 * 16 + (c + 1) % 16;
                while (length < 16 && !a[at] && !b[at]) {
                    length++;
                    at = at / 16 * 16 + (at + 1) % 16;
                }
                if (in(length, 1, 3) && (a[c] && b[at] || b[c] && a[at])) gap += length;
            }
        }
        return new int[] {overlap, touch, gap, 3 * overlap + gap - touch, touch + overlap > 0 ? 1 : 0};
    }

    private Integer on(int a, int b, int u, int v) {
        if (cells(b, u, v) == null) return null;
        int sum = 0;
        for (int[] m : marks) {
            for (int[] k : marks) {
                if (owner[m[1]] == a && owner[k[1]] == b && m[0] == k[0] && sideBySide(m[1], moved(k[1], u, v))) {
                    sum += on(m, k) ? weight(m[0]) : -weight(m[0]);
                }
            }
        }
        return sum;
    }

    int put(int a, int b, int u, int v, int what) {
        if (!two(a, b)) return -1000002;
        if (!in(u, -7, 7) || !in(v, 0, 15) || !in(what, 0, 5)) return -1000003;
        boolean[] put = cells(b, u, v);
        if (put == null) return what == 4 ? 0 : -1000001;
        return what == 5 ? on(a, b, u, v) : fitOf(cells(a, 0, 0), put)[what];
    }

    /** Of all places that count: u, v, COST; in order of COST, u, v. */
    private List<int[]> places(int a, int b) {
        List<int[]> all = new ArrayList<>();
        boolean[] home = cells(a, 0, 0);
        for (int u = -7; u <= 7; u++) {
            for (int v = 0; v < 16; v++) {
                boolean[] put = cells(b, u, v);
                int[] fit = put == null ? null : fitOf(home, put);
                if (fit != null && fit[4] == 1) all.add(new int[] {u, v, fit[3]});
            }
        }
        all.sort((x, y) -> Integer.compare(x[2], y[2]));
        return all;
    }

    int fit(int a, int b, int what) {
        if (!two(a, b)) return UNKNOWN;
        if (!in(what, 0, 2)) return OUTSIDE;
        List<int[]> all = places(a, b);
        if (what == 2) return all.size();
        if (all.isEmpty()) return NONE;
        return what == 0 ? all.get(0)[0] + 7 : all.get(0)[1];
    }

    private static int gcd(int a, int b) {
        return b == 0 ? a : gcd(b, a % b);
    }

    int chance(int a, int b, int u, int v, int part) {
        if (!two(a, b)) return UNKNOWN;
        if (!in(u, -7, 7) || !in(v, 0, 15) || !in(part, 0, 1)) return OUTSIDE;
        List<int[]> all = places(a, b);
        for (int[] place : all) {
            if (place[0] == u && place[1] == v) {
                int least = 0;
                for (int[] other : all) if (other[2] <= place[2]) least++;
                return (part == 0 ? least : all.size()) / gcd(least, all.size());
            }
        }
        return STATE;
    }

    int beside(int a, int b, int u, int v) {
        if (!two(a, b)) return UNKNOWN;
        if (!in(u, -7, 7) || !in(v, 0, 15)) return OUTSIDE;
        Integer own = on(a, b, u, v);
        if (own == null) return STATE;
        int many = 0;
        for (int p = -7; p <= 7; p++) {
            for (int q = 0; q < 16; q++) {
                int du = Math.abs(p - u), dv = ring(q, v);
                Integer other = du + dv == 1 ? on(a, b, p, q) : null;
                if (other != null && other >= own) many++;
            }
        }
        return many;
    }

    private static int ring(int a, int b) {
        int d = Math.abs(a - b);
        return Math.min(d, 16 - d);
    }

    int letters(long w) {
        StringBuilder more = new StringBuilder();
        boolean over = false;
        for (int i = 0; i < 8; i++) {
            int code = (int) (w >>> 8 * i) & 255;
            if (code > 126 || over && code > 0) return OUTSIDE;
            if (code == 0) over = true; else more.append((char) code);
        }
        if (page.length() + more.length() > 50) return FULL;
        page += more;
        return page.length();
    }

    int blank() {
        int was = page.length();
        page = "";
        return was;
    }

    int fault() {
        for (int i = 1; i <= page.length(); i++) {
            Matcher matcher = LAW.matcher(page.substring(0, i));
            if (!matcher.matches() && !matcher.hitEnd()) return i - 1;
        }
        return page.length();
    }

    int law(int holder) {
        if (!in(holder, 0, 1)) return UNKNOWN;
        if (!LAW.matcher(page).matches()) return STATE;
        if (laws.get(holder).size() == 8) return FULL;
        laws.get(holder).add(page);
        page = "";
        return laws.get(holder).size();
    }

    int strike(int holder) {
        if (!in(holder, 0, 1)) return UNKNOWN;
        List<String> own = laws.get(holder);
        if (own.isEmpty()) return STATE;
        own.remove(own.size() - 1);
        return own.size();
    }

    private static int steps(int c, int d) {
        return Math.abs(c / 16 - d / 16) + ring(c % 16, d % 16);
    }

    int distance(int a, int b) {
        if (!two(a, b)) return UNKNOWN;
        int least = 99;
        for (int c = 0; c < 128; c++) {
            for (int d = 0; d < 128; d++) {
                if (owner[c] == a && owner[d] == b) least = Math.min(least, steps(c, d));
            }
        }
        return least;
    }

    int beast(int lands, int age) {
        if (!in(lands, 1, 63) || !in(age, 0, 9)) return OUTSIDE;
        if (beasts.size() == 8) return FULL;
        beasts.add(new int[] {lands, age});
        return beasts.size() - 1;
    }

    private static boolean holds(String condition, int d, int e, int k) {
        for (String term : condition.split("\\|")) {
            boolean all = true;
            for (String factor : term.split("&")) {
                String bare = factor.replace("!", "");
                int value = bare.charAt(0) == 'd' ? d : bare.charAt(0) == 'e' ? e : k;
                int number = Integer.parseInt(bare.substring(2));
                boolean so = bare.charAt(1) == '<' ? value < number : bare.charAt(1) == '>' ? value > number : value == number;
                all &= so == ((factor.length() - bare.length()) % 2 == 0);
            }
            if (all) return true;
        }
        return false;
    }

    /** COST and WAY. */
    private int[] cross(int holder, int beast, int a, int b) {
        int d = distance(a, b);
        int[] best = {NONE, NONE};
        for (int way = 3; way >= 0; way--) {
            int cost = NONE;
            for (String text : laws.get(holder)) {
                Matcher law = LAW.matcher(text);
                boolean such = law.matches() && law.group(1).charAt(0) == "JBSC".charAt(way);
                int[] of = beasts.get(beast);
                if (such && (law.group(3) == null || holds(law.group(3), d, of[1], Integer.bitCount(of[0])))) {
                    cost = Integer.parseInt(law.group(2));
                }
            }
            if (cost != NONE && (way > 0 || d == 1) && (best[0] == NONE || cost <= best[0])) {
                best = new int[] {cost, way};
            }
        }
        return best;
    }

    int crossing(int holder, int beast, int a, int b, int what) {
        if (!in(holder, 0, 1) || !in(beast, 0, beasts.size() - 1) || !two(a, b)) return UNKNOWN;
        if (!in(what, 0, 1)) return OUTSIDE;
        return cross(holder, beast, a, b)[what];
    }

    /** Which two lands each of the fifteen crossings joins. */
    private static int[] ends() {
        int[] ends = new int[15];
        int many = 0;
        for (int a = 0; a < 6; a++) {
            for (int b = a + 1; b < 6; b++) ends[many++] = 1 << a | 1 << b;
        }
        return ends;
    }

    /** The lands that a set of crossings has; NONE, if it does not join them all to one another. */
    private static int joined(int set) {
        int all = 0, seen = 0;
        for (int i = 0; i < 15; i++) {
            if ((set >> i & 1) == 1) all |= ENDS[i];
        }
        seen = Integer.lowestOneBit(all);
        for (int round = 0; round < 6; round++) {
            for (int i = 0; i < 15; i++) {
                if ((set >> i & 1) == 1 && (ENDS[i] & seen) != 0) seen |= ENDS[i];
            }
        }
        return seen == all ? all : NONE;
    }

    /** All sets of crossings that hang together, each with its lands; more than five crossings are never needed. */
    private static List<int[]> sets() {
        List<int[]> sets = new ArrayList<>();
        for (int set = 0; set < 1 << 15; set++) {
            if (Integer.bitCount(set) <= 5 && joined(set) != NONE) sets.add(new int[] {set, joined(set)});
        }
        return sets;
    }

    /** COST and BY WAY of, by all sets of crossings. */
    private int[] spreadOf(int holder, int beast) {
        int lands = beasts.get(beast)[0];
        if (Integer.bitCount(lands) == 1) return new int[] {0, 0};
        int[] costs = new int[15];
        for (int i = 0; i < 15; i++) {
            int a = Integer.numberOfTrailingZeros(ENDS[i]), b = 31 - Integer.numberOfLeadingZeros(ENDS[i]);
            costs[i] = cross(holder, beast, a, b)[0];
        }
        int[] best = {NONE, NONE};
        for (int[] set : SETS) {
            if ((lands & ~set[1]) != 0) continue;
            int cost = 0;
            boolean can = true;
            for (int i = 0; i < 15; i++) {
                if ((set[0] >> i & 1) == 1) {
                    can &= costs[i] != NONE;
                    cost += costs[i];
                }
            }
            if (!can) continue;
            int further = set[1] & ~lands;
            int fewer = Integer.compare(Integer.bitCount(further), Integer.bitCount(best[1]));
            if (best[0] == NONE || cost < best[0] || cost == best[0] && (fewer < 0 || fewer == 0 && further < best[1])) {
                best = new int[] {cost, further};
            }
        }
        return best;
    }

    int spread(int holder, int beast, int what) {
        if (!in(holder, 0, 1) || !in(beast, 0, beasts.size() - 1)) return UNKNOWN;
        if (!in(what, 0, 1)) return OUTSIDE;
        return spreadOf(holder, beast)[what];
    }

    int unlike(int what) {
        if (!in(what, 0, 1)) return OUTSIDE;
        int parts = 0, most = NONE, greatest = 0;
        for (int i = 0; i < beasts.size(); i++) {
            int one = spreadOf(0, i)[0], other = spreadOf(1, i)[0];
            int by = Math.abs((one < 0 ? 999 : one) - (other < 0 ? 999 : other));
            if (one != other) parts++;
            if (by > greatest) {
                greatest = by;
                most = i;
            }
        }
        return what == 0 ? parts : most;
    }

    int speed(int v) {
        if (!in(v, 0, 7)) return OUTSIDE;
        int was = speed;
        speed = v;
        return was;
    }

    int claim(int land, int other, int age, boolean beside, int weight) {
        if (!two(land, other)) return UNKNOWN;
        if (!in(age, 0, 9) || !in(weight, 1, 99)) return OUTSIDE;
        if (claims.size() == 12) return FULL;
        claims.add(new int[] {land, other, age, beside ? 1 : 0, weight});
        return claims.size() - 1;
    }

    private int owed(int land, int age, int v) {
        int sum = 0;
        for (int[] claim : claims) {
            if (claim[0] == land && claim[2] == age) {
                int[] fit = fitOf(cells(claim[1], 0, 0), cells(land, 0, v));
                boolean holds = fit[0] == 0 && (claim[3] == 1 ? fit[1] > 0 : fit[1] == 0);
                if (!holds) sum += claim[4];
            }
        }
        return sum;
    }

    /** The story from the first age on: of each end its least cost, and the least places (AGE 0 foremost). */
    int story(int land, int what) {
        if (!land(land)) return UNKNOWN;
        if (what != 0 && !in(what, 10, 19)) return OUTSIDE;
        int far = 1000000;
        int[] cost = new int[16];
        long[] places = new long[16];
        Arrays.fill(cost, far);
        cost[0] = owed(land, 0, 0);
        for (int age = 1; age < 10; age++) {
            int[] next = new int[16];
            long[] nextPlaces = new long[16];
            for (int v = 0; v < 16; v++) {
                next[v] = far;
                int owed = owed(land, age, v);
                for (int from = 0; from < 16; from++) {
                    int by = cost[from] + ring(from, v) + owed;
                    long told = places[from] * 16 + v;
                    if (cost[from] < far && ring(from, v) <= speed && (by < next[v] || by == next[v] && told < nextPlaces[v])) {
                        next[v] = by;
                        nextPlaces[v] = told;
                    }
                }
            }
            cost = next;
            places = nextPlaces;
        }
        int best = 0;
        for (int v = 1; v < 16; v++) {
            if (cost[v] < cost[best] || cost[v] == cost[best] && places[v] < places[best]) best = v;
        }
        return what == 0 ? cost[best] : (int) (places[best] >> 4 * (19 - what)) & 15;
    }

    int judge(int land, long told) {
        if (!land(land)) return UNKNOWN;
        if (!in(told, 0, (1L << 40) - 1)) return OUTSIDE;
        int cost = 0;
        int at = 0;
        for (int age = 0; age < 10; age++) {
            int v = (int) (told >> 4 * age) & 15;
            if (ring(at, v) > (age == 0 ? 0 : speed)) return NONE;
            cost += ring(at, v) + owed(land, age, v);
            at = v;
        }
        return cost;
    }

    int pole(int land, int put, int v, int what) {
        if (!in(land, -1, 5) || !in(put, -1, 5)) return UNKNOWN;
        if (!in(v, 0, 15) || !in(what, 0, 2)) return OUTSIDE;
        int pole = NONE, greatest = 0, many = 0;
        boolean any = false;
        for (int[] m : marks) any |= m[0] == 4 && (land == NONE || owner[m[1]] == land);
        for (int c = 127; any && c >= 0; c--) {
            int agree = 0;
            for (int[] m : marks) {
                boolean looked = m[0] == 4 && (land == NONE || owner[m[1]] == land);
                int at = owner[m[1]] == put ? moved(m[1], 0, v) : m[1];
                if (looked && steps(at, c) == m[2]) agree++;
            }
            many = agree > greatest ? 1 : agree == greatest ? many + 1 : many;
            if (agree >= greatest) pole = c;
            greatest = Math.max(greatest, agree);
        }
        return what == 0 ? pole : what == 1 ? greatest : many;
    }

    int floor(int stripes) {
        if (!in(stripes, 0, 16777215)) return OUTSIDE;
        int was = floor;
        floor = stripes;
        return was;
    }

    int mirror(int place) {
        if (!in(place, 1, 23)) return OUTSIDE;
        String text = String.format("%24s", Integer.toBinaryString(floor)).replace(' ', '0');
        String high = text.substring(0, 24 - place);
        String low = text.substring(24 - place);
        String near = new StringBuilder(high).reverse().toString();
        int same = 0;
        while (same < near.length() && same < low.length() && near.charAt(same) == low.charAt(same)) same++;
        return same;
    }

    int ridge() {
        int best = 12;
        for (int off = 1; off <= 11; off++) {
            if (mirror(12 - off) > mirror(best)) best = 12 - off;
            if (mirror(12 + off) > mirror(best)) best = 12 + off;
        }
        return best;
    }

    int count(int what) {
        switch (what) {
            case 0: return (int) Arrays.stream(owner).filter(o -> o != NONE).count();
            case 1: return marks.size();
            case 2: return laws.get(0).size();
            case 3: return laws.get(1).size();
            case 4: return beasts.size();
            case 5: return claims.size();
            case 6: return page.length();
            default: return OUTSIDE;
        }
    }

    long digest() {
        List<Long> told = new ArrayList<>();
        for (int o : owner) told.add((long) o);
        for (int i = 0; i < marks.size(); i++) for (int what = 0; what < 4; what++) told.add((long) about(i, what));
        for (int a = 0; a < 6; a++) for (int b = a + 1; b < 6; b++) told.add((long) distance(a, b));
        for (int i = 0; i < beasts.size(); i++) {
            told.add((long) beasts.get(i)[0]);
            told.add((long) beasts.get(i)[1]);
            told.add((long) spreadOf(0, i)[0]);
            told.add((long) spreadOf(1, i)[0]);
        }
        told.add((long) speed);
        for (int[] claim : claims) for (int number : claim) told.add((long) number);
        told.add((long) floor);
        told.add((long) ridge());
        for (char letter : page.toCharArray()) told.add((long) letter);
        for (int what = 0; what <= 6; what++) told.add((long) count(what));
        long h = 313;
        for (long number : told) h = 31 * h + number;
        return h;
    }
}
