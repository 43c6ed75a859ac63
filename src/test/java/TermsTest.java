import java.util.function.ToLongFunction;

/**
 * Each word in capitals means the same in every promise that uses it: what a call answers by such a word is what
 * another call tells of it. Answers of the class are held beside one another, and beside what the object was given.
 */
final class TermsTest {
    private static final int NONE = EdgesFit.NONE, STATE = EdgesFit.STATE, LEAVES = -1000001;
    private static final int OVERLAP = 0, TOUCH = 1, GAP = 2, COST = 3, COUNTS = 4, ON = 5, NEEDLE = 4;
    private static final int WORLDS = 12, ASKED_OF_AN_OBJECT = 300, PLACES = 15 * 16;
    private static final Check CHECK = new Check();
    private static final int[] APART = apart();

    private final int world;
    private final int[] owners = new int[128];
    private final int[] lands = new int[8];
    private final int[] ages = new int[8];
    private final int[][] claims = new int[12][];
    private int speed;
    private int floor;
    private String page;
    private EdgesFit x;
    private int asked;
    private long seed;
    /** The digest as far as it is told. */
    private long h;

    private TermsTest(int world) {
        this.world = world;
        make();
    }

    public static void main(String[] args) {
        for (int world = 0; world < WORLDS; world++) {
            TermsTest test = new TermsTest(world);
            test.cells();
            test.places();
            test.goingOn();
            test.distances();
            test.letters();
            test.spreads();
            test.claims();
            test.stories();
            test.poles();
            test.ridge();
            test.digest();
        }
        weights();
        needles();
        CHECK.end();
    }

    private int below(int bound) {
        seed = seed * 6364136223846793005L + 1442695040888963407L;
        return (int) ((seed >>> 33) % bound);
    }

    /** The same object each time, in fewer than 200 calls; what is only asked of it changes nothing. */
    private void make() {
        seed = 15485863L * (world + 1);
        asked = 0;
        x = new EdgesFit();
        java.util.Arrays.fill(owners, NONE);
        for (int i = 0; i < 50; i++) {
            // Rows stay free, so that lands can be put elsewhere; cells of a land come in clusters.
            int land = below(world == 5 ? 5 : 6);
            int cell = 16 * (1 + below(4)) + (3 * land + below(3 + world % 4)) % 16;
            x.cell(land, cell);
            owners[cell] = land;
        }
        for (int i = 0; i < 60; i++) {
            x.mark(below(6), 16 + below(64), below(world % 2 == 0 ? 16 : 3));
        }
        String[] laws = {"C:40", "J:1?e<8", "B:" + below(20) + "?d<4", "S:" + below(30) + "?!d>6&k<5", "C:" + below(9) + "?d=3|e=2"};
        for (int i = world % 3; i < 5; i++) {
            Check.tell(x, i % 2, laws[i]);
        }
        for (int i = 0; i < 8; i++) {
            lands[i] = 1 + below(63);
            ages[i] = below(10);
            x.beast(lands[i], ages[i]);
        }
        speed = 1 + world % 7;
        x.speed(speed);
        for (int i = 0; i < 12; i++) {
            int[] claim = {below(2), 2 + below(4), below(10), Math.min(1, below(3)), 1 + below(9)};
            x.claim(claim[0], claim[1], claim[2], claim[3] == 1, claim[4]);
            claims[i] = claim;
        }
        floor = below(4096) * 4097 ^ below(8);
        x.floor(floor);
        page = "S:1?k>";
        Check.write(x, page);
    }

    /** Asks an object that still has calls left. */
    private int ask(ToLongFunction<EdgesFit> asking) {
        if (asked >= ASKED_OF_AN_OBJECT) {
            make();
        }
        asked++;
        return (int) asking.applyAsLong(x);
    }

    private void due(String what, long got, long want) {
        CHECK.due("world " + world + ": " + what, got, want);
    }

    private int put(int a, int b, int u, int v, int what) {
        return ask(x -> x.put(a, b, u, v, what));
    }

    private int about(int mark, int what) {
        return ask(x -> x.about(mark, what));
    }

    private int distance(int a, int b) {
        return ask(x -> x.distance(a, b));
    }

    /** CELLS, LANDS, MARKS: of cell(), land(), about(), count(). */
    private void cells() {
        int cells = 0;
        int marks = 0;
        for (int i = 0; i < 6; i++) {
            int land = i;
            int many = 0;
            int least = NONE;
            for (int cell = 127; cell >= 0; cell--) {
                many += owners[cell] == land ? 1 : 0;
                least = owners[cell] == land ? cell : least;
            }
            due("CELLS of " + land, ask(x -> x.land(land, 0)), many);
            due("least CELL of " + land, ask(x -> x.land(land, 1)), least);
            due("MARKS on " + land, ask(x -> x.land(land, 2)), marksOn(land));
            cells += many;
            marks += marksOn(land);
        }
        due("CELLS of LANDS", ask(x -> x.count(0)), cells);
        due("MARKS", ask(x -> x.count(1)), marks);
    }

    private int marksOn(int land) {
        int many = 0;
        for (int i = ask(x -> x.count(1)) - 1; i >= 0; i--) {
            many += owners[about(i, 1)] == land ? 1 : 0;
        }
        return many;
    }

    /** OVERLAP, TOUCH, GAP, COST, PLACE, COUNTS, THE BEST FIT, CHANCE: of put(), fit(), chance(). */
    private void places() {
        int a = world % 6;
        int b = (a + 1 + world / 6) % 6;
        int[] costs = new int[PLACES];
        boolean[] counts = new boolean[PLACES];
        int counted = 0;
        int best = NONE;
        for (int place = 0; place < PLACES; place++) {
            int u = place / 16 - 7;
            int v = place % 16;
            costs[place] = put(a, b, u, v, COST);
            int overlap = put(a, b, u, v, OVERLAP);
            int touch = put(a, b, u, v, TOUCH);
            counts[place] = costs[place] != LEAVES && overlap + touch >= 1;
            due("COUNTS (" + u + ", " + v + ")", put(a, b, u, v, COUNTS), counts[place] ? 1 : 0);
            if (costs[place] != LEAVES) {
                due("COST (" + u + ", " + v + ")", costs[place], 3 * overlap + put(a, b, u, v, GAP) - touch);
            }
            if (counts[place]) {
                counted++;
                best = best == NONE || costs[place] < costs[best] ? place : best;
            }
        }
        due("PLACES that COUNT", ask(x -> x.fit(a, b, 2)), counted);
        due("u of THE BEST FIT", ask(x -> x.fit(a, b, 0)), best == NONE ? NONE : best / 16);
        due("v of THE BEST FIT", ask(x -> x.fit(a, b, 1)), best == NONE ? NONE : best % 16);
        for (int place = 0; place < PLACES; place++) {
            chance(a, b, place, costs, counts);
        }
    }

    private void chance(int a, int b, int place, int[] costs, boolean[] counts) {
        long above = ask(x -> x.chance(a, b, place / 16 - 7, place % 16, 0));
        long below = ask(x -> x.chance(a, b, place / 16 - 7, place % 16, 1));
        if (!counts[place]) {
            due("CHANCE of a PLACE that does not COUNT, above", above, STATE);
            due("CHANCE of a PLACE that does not COUNT, below", below, STATE);
            return;
        }
        int all = 0;
        int notGreater = 0;
        for (int other = 0; other < PLACES; other++) {
            all += counts[other] ? 1 : 0;
            notGreater += counts[other] && costs[other] <= costs[place] ? 1 : 0;
        }
        due("CHANCE of place " + place, above * all, below * notGreater);
        int shared = 0;
        for (int divisor = 2; divisor <= above; divisor++) {
            shared += above % divisor == 0 && below % divisor == 0 ? 1 : 0;
        }
        due("divisors of both parts of CHANCE", shared, 0);
    }

    /** ON, BESIDE, GOES ON, WEIGHT, KIND: of put(), beside(), goesOn(), about(). */
    private void goingOn() {
        int a = (world + 1) % 6;
        int b = (world + 2) % 6;
        for (int place = 0; place < PLACES; place++) {
            int u = place / 16 - 7;
            int v = place % 16;
            int on = put(a, b, u, v, ON);
            int beside = ask(x -> x.beside(a, b, u, v));
            if (on == LEAVES) {
                due("BESIDE, if a CELL leaves the ROWS", beside, STATE);
                continue;
            }
            int many = asGreat(a, b, u - 1, v, on) + asGreat(a, b, u + 1, v, on)
                + asGreat(a, b, u, (v + 1) % 16, on) + asGreat(a, b, u, (v + 15) % 16, on);
            due("BESIDE (" + u + ", " + v + ")", beside, many);
            if (place % 7 == world % 7) {
                due("ON (" + u + ", " + v + ")", on, onByPairs(a, b, u, v));
            }
        }
        due("ON at HOME", put(a, b, 0, 0, ON), onByPairs(a, b, 0, 0));
    }

    private int asGreat(int a, int b, int u, int v, int on) {
        return u >= -7 && u <= 7 && put(a, b, u, v, ON) != LEAVES && put(a, b, u, v, ON) >= on ? 1 : 0;
    }

    private int onByPairs(int a, int b, int u, int v) {
        int many = ask(x -> x.count(1));
        int sum = 0;
        for (int i = 0; i < many; i++) {
            int cell = about(i, 1);
            for (int j = 0; owners[cell] == a && j < many; j++) {
                int home = about(j, 1);
                int moved = home + 16 * u - home % 16 + (home % 16 + v) % 16;
                int columns = Math.abs(cell - moved);
                boolean sideBySide = cell / 16 == moved / 16 && (columns == 1 || columns == 15);
                if (owners[home] == b && sideBySide && about(i, 0) == about(j, 0)) {
                    int from = i;
                    int into = j;
                    sum += ask(x -> x.goesOn(from, into)) == 1 ? about(i, 3) : -about(i, 3);
                }
            }
        }
        return sum;
    }

    /** WEIGHT, GOES ON: of each KIND and each two n, by about(), goesOn() and ON of put(). */
    private static void weights() {
        for (int kind = 0; kind < 6; kind++) {
            for (int n = 0; n < 16; n++) {
                for (int m = 0; m < 16; m++) {
                    EdgesFit x = new EdgesFit();
                    x.cell(0, 63);
                    x.cell(1, 96);
                    x.mark(kind, 63, n);
                    x.mark(kind, 96, m);
                    int on = x.goesOn(0, 1) == 1 ? x.about(0, 3) : -x.about(0, 3);
                    CHECK.due("ON of KIND " + kind + ", n " + n + " and " + m, x.put(0, 1, -3, 0, ON), on);
                }
            }
        }
    }

    /** DISTANCE, TOUCH, CELLS: of distance(), put(), land(). */
    private void distances() {
        for (int i = 0; i < 36; i++) {
            int a = i / 6;
            int b = i % 6;
            if (a == b) {
                continue;
            }
            int d = distance(a, b);
            due("DISTANCE both ways", distance(b, a), d);
            boolean cells = ask(x -> x.land(a, 0)) > 0 && ask(x -> x.land(b, 0)) > 0;
            due("DISTANCE is 99", d == 99 ? 1 : 0, cells ? 0 : 1);
            due("OVERLAP at HOME: each CELL is one LAND's at most", put(a, b, 0, 0, OVERLAP), 0);
            if (put(a, b, 0, 0, TOUCH) > 0) {
                due("DISTANCE of such as TOUCH", d, 1);
            }
        }
    }

    /** DISTANCE, AGE, LANDS, as the letters of a LAW tell them, and as J has DISTANCE: of crossing(). */
    private void letters() {
        for (int i = 0; i < 8; i++) {
            int a = i % 6;
            int b = (i + 1 + i / 6) % 6;
            int d = distance(a, b);
            make();
            x.blank();
            for (int left = x.count(2); left > 0; left--) {
                x.strike(0);
            }
            Check.tell(x, 0, "S:7?d=" + d + "&e=" + ages[i] + "&k=" + Integer.bitCount(lands[i]));
            due("d, e and k", x.crossing(0, i, a, b, 0), 7);
            Check.tell(x, 0, "S:9?!d=" + d + "|!e=" + ages[i] + "|!k=" + Integer.bitCount(lands[i]));
            due("d, e and k are no others", x.crossing(0, i, a, b, 0), 7);
            Check.tell(x, 0, "J:3");
            due("J, if DISTANCE is 1", x.crossing(0, i, a, b, 1), d == 1 ? 0 : 2);
            make();
        }
    }

    /** CROSSING, SPREAD, COST, BY WAY of, PARTS, MOST: of crossing(), spread(), unlike(). */
    private void spreads() {
        int parts = 0;
        int most = NONE;
        int greatest = 0;
        for (int i = 0; i < 8; i++) {
            int beast = i;
            int first = ask(x -> x.spread(0, beast, 0));
            int second = ask(x -> x.spread(1, beast, 0));
            parts += first == second ? 0 : 1;
            int by = Math.abs((first == NONE ? 999 : first) - (second == NONE ? 999 : second));
            if (by > greatest) {
                greatest = by;
                most = i;
            }
            spread(0, beast);
            spread(1, beast);
        }
        due("PARTS", ask(x -> x.unlike(0)), parts);
        due("MOST", ask(x -> x.unlike(1)), most);
    }

    private void spread(int holder, int beast) {
        int[] costs = new int[36];
        for (int i = 0; i < 36; i++) {
            int a = i / 6;
            int b = i % 6;
            costs[i] = a == b ? NONE : ask(x -> x.crossing(holder, beast, a, b, 0));
        }
        int best = NONE;
        int further = NONE;
        for (int set = 0; set < 64; set++) {
            int cost = (set & lands[beast]) == 0 ? cheapestTree(set | lands[beast], costs) : NONE;
            boolean fewer = cost == best && Integer.bitCount(set) < Integer.bitCount(further);
            if (cost != NONE && (best == NONE || cost < best || fewer)) {
                best = cost;
                further = set;
            }
        }
        due("SPREAD by CROSSINGS", ask(x -> x.spread(holder, beast, 0)), best);
        due("BY WAY of", ask(x -> x.spread(holder, beast, 1)), further);
    }

    /** The cheapest crossings first, each that joins two parts. */
    private static int cheapestTree(int set, int[] costs) {
        int[] part = {1, 2, 4, 8, 16, 32};
        int sum = 0;
        for (int i = 0; i < 100 * 36; i++) {
            int cost = i / 36;
            int a = i % 36 / 6;
            int b = i % 6;
            boolean of = (set >> a & 1) == 1 && (set >> b & 1) == 1 && costs[6 * a + b] == cost;
            if (of && (part[a] >> b & 1) == 0) {
                int both = part[a] | part[b];
                sum += cost;
                for (int c = 0; c < 6; c++) {
                    part[c] = (both >> c & 1) == 1 ? both : part[c];
                }
            }
        }
        return part[Integer.numberOfTrailingZeros(set)] == set ? sum : NONE;
    }

    /** CLAIMS, TOUCH, OVERLAP, PUT, COST of a STORY: of judge(), by put(). */
    private void claims() {
        for (int round = 0; round < 20; round++) {
            long told = 0;
            int v = 0;
            int[] places = new int[10];
            int cost = 0;
            for (int age = 1; age < 10; age++) {
                int by = below(2 * speed + 1) - speed;
                v = v + by + 16 & 15;
                places[age] = v;
                told |= (long) v << 4 * age;
                cost += Math.abs(by);
            }
            for (int[] claim : claims) {
                int at = places[claim[2]];
                boolean touch = put(claim[1], claim[0], 0, at, TOUCH) > 0;
                boolean holds = put(claim[1], claim[0], 0, at, OVERLAP) == 0 && touch == (claim[3] == 1);
                cost += claim[0] == world % 2 && !holds ? claim[4] : 0;
            }
            long story = told;
            due("COST of the STORY " + Long.toHexString(story), ask(x -> x.judge(world % 2, story)), cost);
        }
    }

    /** THE STORY, SPEED, COST: of story(), by judge() of it and of such as are a little off. */
    private void stories() {
        for (int i = 0; i < 6; i++) {
            int land = i;
            long told = 0;
            for (int age = 9; age >= 0; age--) {
                int what = 10 + age;
                told = told << 4 | ask(x -> x.story(land, what));
            }
            long story = told;
            int cost = ask(x -> x.story(land, 0));
            due("COST of THE STORY of " + land, ask(x -> x.judge(land, story)), cost);
            due("THE STORY at AGE 0", story & 15, 0);
            for (int from = 1; from < 10; from++) {
                for (int by = 1; by < 16; by++) {
                    off(land, story, cost, from, by);
                }
            }
        }
    }

    /** The story with its places from an age on moved: it is none, or dearer, or alike, but not with a lesser v there. */
    private void off(int land, long story, int cost, int from, int by) {
        long other = story;
        int first = 0;
        for (int age = from; age < 10; age++) {
            long v = (story >> 4 * age) + by & 15;
            first = age == from ? (int) v : first;
            other = other & ~(15L << 4 * age) | v << 4 * age;
        }
        long told = other;
        int judged = ask(x -> x.judge(land, told));
        boolean lesser = first < (story >> 4 * from & 15);
        due("better than THE STORY: " + Long.toHexString(told), judged != NONE && (judged < cost || judged == cost && lesser) ? 1 : 0, 0);
    }

    /** NEEDLES, AGREE, A POLE, PUT: of pole(), by about() and by what a further needle changes. */
    private void poles() {
        for (int land = NONE; land < 6; land++) {
            int of = land;
            int put = below(7) - 1;
            int v = below(16);
            int[] agree = new int[128];
            int needles = 0;
            for (int i = ask(x -> x.count(1)) - 1; i >= 0; i--) {
                int home = about(i, 1);
                if (about(i, 0) == NEEDLE && (land == NONE || owners[home] == land)) {
                    needles++;
                    int cell = owners[home] == put ? home - home % 16 + (home % 16 + v) % 16 : home;
                    for (int other = 0; other < 128; other++) {
                        agree[other] += apart(cell, other) == about(i, 2) ? 1 : 0;
                    }
                }
            }
            int least = 0;
            int many = 0;
            for (int cell = 127; cell >= 0; cell--) {
                many = agree[cell] > agree[least] ? 0 : many;
                least = agree[cell] >= agree[least] ? cell : least;
            }
            for (int cell = 0; cell < 128; cell++) {
                many += agree[cell] == agree[least] ? 1 : 0;
            }
            due("THE POLE", ask(x -> x.pole(of, put, v, 0)), needles == 0 ? NONE : least);
            due("AGREE of THE POLE", ask(x -> x.pole(of, put, v, 1)), agree[least]);
            due("POLES", ask(x -> x.pole(of, put, v, 2)), needles == 0 ? 0 : many);
        }
    }

    /** How far each two cells are from one another, by distance() of two lands of one cell each. */
    private static int[] apart() {
        int[] apart = new int[128 * 128];
        for (int cell = 0; cell < 128; cell++) {
            EdgesFit x = new EdgesFit();
            x.cell(0, cell);
            for (int other = 0; other < 128; other++) {
                if (other != cell) {
                    x.cell(1, other);
                    apart[128 * cell + other] = x.distance(0, 1);
                    x.cell(NONE, other);
                }
            }
        }
        return apart;
    }

    private static int apart(int cell, int other) {
        return APART[128 * cell + other];
    }

    /** How far it is from a CELL to another one, of a NEEDLE, is as DISTANCE of two LANDS that have just these. */
    private static void needles() {
        for (int cell = 0; cell < 128; cell++) {
            for (int n = 0; n < 16; n++) {
                EdgesFit x = new EdgesFit();
                x.cell(0, cell);
                x.mark(NEEDLE, cell, n);
                int so = 0;
                for (int other = 0; other < 128; other++) {
                    so += apart(cell, other) == n ? 1 : 0;
                }
                CHECK.due("POLES by a NEEDLE on " + cell + ", n " + n, x.pole(0, NONE, 0, 2), so == 0 ? 128 : so);
            }
        }
    }

    /** MIRROR, THE RIDGE: of mirror(), ridge(). */
    private void ridge() {
        int best = 12;
        for (int off = 1; off < 12; off++) {
            for (int place = 12 - off; place <= 12 + off; place += 2 * off) {
                int now = best;
                int at = place;
                best = ask(x -> x.mirror(at)) > ask(x -> x.mirror(now)) ? place : best;
            }
        }
        due("THE RIDGE", ask(EdgesFit::ridge), best);
    }

    private void tell(long number) {
        h = 31 * h + number;
    }

    /** All words that digest() uses, by the calls that tell them, and by what was given. */
    private void digest() {
        make();
        h = 313;
        for (int owner : owners) {
            tell(owner);
        }
        for (int i = 0; i < x.count(1); i++) {
            for (int what = 0; what < 4; what++) {
                tell(about(i, what));
            }
        }
        for (int a = 0; a < 6; a++) {
            for (int b = a + 1; b < 6; b++) {
                tell(distance(a, b));
            }
        }
        for (int i = 0; i < 8; i++) {
            int beast = i;
            tell(lands[i]);
            tell(ages[i]);
            tell(ask(x -> x.spread(0, beast, 0)));
            tell(ask(x -> x.spread(1, beast, 0)));
        }
        tell(speed);
        for (int[] claim : claims) {
            for (int number : claim) {
                tell(number);
            }
        }
        tell(floor);
        tell(ask(EdgesFit::ridge));
        for (char letter : page.toCharArray()) {
            tell(letter);
        }
        for (int i = 0; i < 7; i++) {
            int what = i;
            tell(ask(x -> x.count(what)));
        }
        make();
        due("digest", x.digest(), h);
    }
}
