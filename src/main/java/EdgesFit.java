import java.util.Arrays;

/** Lands on a globe of ringed rows: where they fit, what crosses them, their stories, poles and stripes. */
public final class EdgesFit {
    public static final int NONE = -1, UNKNOWN = -101, OUTSIDE = -102, STATE = -103, FULL = -104;

    private static final int PUT_LEAVES = -1000001, PUT_UNKNOWN = -1000002, PUT_OUTSIDE = -1000003;
    private static final int ROWS = 8, COLUMNS = 16, CELLS = 128, LANDS = 6, FARTHEST = 7;
    private static final int HOLDERS = 2, AGES = 10;

    private final Globe globe;
    private final Marks marks;
    private final Fits fits;
    private final Page page;
    private final Holder holder0;
    private final Holder holder1;
    private final Beasts beasts;
    private final Spreads spreads;
    private final Stories stories;
    private final Poles poles;
    private final Stripes stripes;

    public EdgesFit() {
        globe = new Globe();
        marks = new Marks(globe);
        fits = new Fits(globe);
        page = new Page();
        holder0 = new Holder();
        holder1 = new Holder();
        beasts = new Beasts();
        spreads = new Spreads(globe, beasts);
        stories = new Stories(fits);
        poles = new Poles(marks);
        stripes = new Stripes();
    }

    // ---- lands, marks

    public int cell(int land, int cell) {
        if (land != NONE && !isLand(land) || !within(cell, CELLS)) {
            return UNKNOWN;
        }
        if (marks.anyOn(cell)) {
            return STATE;
        }
        int was = globe.ownerOf(cell);
        globe.give(cell, land);
        return was;
    }

    public int run(int land, int row, int column, int many) {
        if (!isLand(land) || !within(row, ROWS) || !within(column, COLUMNS)) {
            return UNKNOWN;
        }
        if (many < 1 || many > COLUMNS) {
            return OUTSIDE;
        }
        return globe.giveRun(land, row, column, many);
    }

    public int land(int land, int what) {
        if (!isLand(land)) {
            return UNKNOWN;
        }
        switch (what) {
            case 0:
                return globe.sizeOf(land);
            case 1:
                return globe.leastCellOf(land);
            case 2:
                return marks.howManyOn(land);
            default:
                return OUTSIDE;
        }
    }

    public int mark(int kind, int cell, int n) {
        if (!within(cell, CELLS) || globe.ownerOf(cell) == NONE) {
            return UNKNOWN;
        }
        if (!within(kind, Marks.KINDS) || !within(n, Marks.NUMBERS)) {
            return OUTSIDE;
        }
        return marks.isFull() ? FULL : marks.add(kind, cell, n);
    }

    public int as(int mark, int kind) {
        if (!within(mark, marks.size())) {
            return UNKNOWN;
        }
        if (!within(kind, Marks.KINDS)) {
            return OUTSIDE;
        }
        return marks.isOf(mark, kind) ? mark : NONE;
    }

    public int about(int mark, int what) {
        if (!within(mark, marks.size())) {
            return UNKNOWN;
        }
        switch (what) {
            case 0:
                return marks.kindOf(mark);
            case 1:
                return marks.cellOf(mark);
            case 2:
                return marks.numberOf(mark);
            case 3:
                return marks.weightOf(mark);
            default:
                return OUTSIDE;
        }
    }

    public int goesOn(int a, int b) {
        if (!within(a, marks.size()) || !within(b, marks.size())) {
            return UNKNOWN;
        }
        return marks.leadsInto(a, b) ? 1 : 0;
    }

    public int drop() {
        return marks.size() == 0 ? STATE : marks.removeLast();
    }

    // ---- fits

    public int put(int a, int b, int u, int v, int what) {
        if (!areTwoLands(a, b)) {
            return PUT_UNKNOWN;
        }
        if (!isPlace(u, v) || !within(what, 6)) {
            return PUT_OUTSIDE;
        }
        if (!globe.staysInRows(b, u)) {
            return what == 4 ? 0 : PUT_LEAVES;
        }
        if (what == 5) {
            return marks.goingOn(a, b, u, v);
        }
        fits.look(a, b, u, v);
        switch (what) {
            case 0:
                return fits.overlap;
            case 1:
                return fits.touch;
            case 2:
                return fits.gap;
            case 3:
                return fits.price();
            default:
                return fits.isCounted() ? 1 : 0;
        }
    }

    public int fit(int a, int b, int what) {
        if (!areTwoLands(a, b)) {
            return UNKNOWN;
        }
        if (!within(what, 3)) {
            return OUTSIDE;
        }
        fits.survey(a, b, 0);
        if (what == 2) {
            return fits.counted;
        }
        if (fits.counted == 0) {
            return NONE;
        }
        return what == 0 ? fits.bestU + FARTHEST : fits.bestV;
    }

    public int chance(int a, int b, int u, int v, int part) {
        if (!areTwoLands(a, b)) {
            return UNKNOWN;
        }
        if (!isPlace(u, v) || !within(part, 2)) {
            return OUTSIDE;
        }
        if (!globe.staysInRows(b, u)) {
            return STATE;
        }
        fits.look(a, b, u, v);
        if (!fits.isCounted()) {
            return STATE;
        }
        fits.survey(a, b, fits.price());
        return part == 0 ? reduced(fits.notDearer, fits.counted) : reduced(fits.counted, fits.notDearer);
    }

    public int beside(int a, int b, int u, int v) {
        if (!areTwoLands(a, b)) {
            return UNKNOWN;
        }
        if (!isPlace(u, v)) {
            return OUTSIDE;
        }
        if (!globe.staysInRows(b, u)) {
            return STATE;
        }
        int least = marks.goingOn(a, b, u, v);
        return asGreat(a, b, u - 1, v, least) + asGreat(a, b, u + 1, v, least)
            + asGreat(a, b, u, eastOf(v, COLUMNS - 1), least) + asGreat(a, b, u, eastOf(v, 1), least);
    }

    private int asGreat(int a, int b, int u, int v, int least) {
        if (!isPlace(u, v) || !globe.staysInRows(b, u)) {
            return 0;
        }
        return marks.goingOn(a, b, u, v) >= least ? 1 : 0;
    }

    // ---- laws, beasts

    public int letters(long w) {
        if (!Page.isTold(w)) {
            return OUTSIDE;
        }
        return page.hasRoomFor(w) ? page.write(w) : FULL;
    }

    public int blank() {
        return page.wipe();
    }

    public int fault() {
        return page.faultPlace();
    }

    public int law(int holder) {
        if (!within(holder, HOLDERS)) {
            return UNKNOWN;
        }
        if (!page.isLaw()) {
            return STATE;
        }
        Holder reader = holderOf(holder);
        if (reader.isFull()) {
            return FULL;
        }
        int many = reader.read(page);
        page.wipe();
        return many;
    }

    public int strike(int holder) {
        if (!within(holder, HOLDERS)) {
            return UNKNOWN;
        }
        Holder struck = holderOf(holder);
        return struck.size() == 0 ? STATE : struck.removeLast();
    }

    public int distance(int a, int b) {
        return areTwoLands(a, b) ? globe.apart(a, b) : UNKNOWN;
    }

    public int beast(int lands, int age) {
        if (lands < 1 || lands > 63 || !within(age, AGES)) {
            return OUTSIDE;
        }
        return beasts.isFull() ? FULL : beasts.add(lands, age);
    }

    public int crossing(int holder, int beast, int a, int b, int what) {
        if (!within(holder, HOLDERS) || !within(beast, beasts.size()) || !areTwoLands(a, b)) {
            return UNKNOWN;
        }
        if (!within(what, 2)) {
            return OUTSIDE;
        }
        Holder asked = holderOf(holder);
        asked.choose(globe.apart(a, b), beasts.ageOf(beast), beasts.howManyLands(beast));
        return what == 0 ? asked.price : asked.way;
    }

    public int spread(int holder, int beast, int what) {
        if (!within(holder, HOLDERS) || !within(beast, beasts.size())) {
            return UNKNOWN;
        }
        if (!within(what, 2)) {
            return OUTSIDE;
        }
        spreads.solve(holderOf(holder), beast);
        return what == 0 ? spreads.price : spreads.further;
    }

    public int unlike(int what) {
        if (!within(what, 2)) {
            return OUTSIDE;
        }
        int parts = 0;
        int most = NONE;
        int greatest = 0;
        for (int i = 0; i < beasts.size(); i++) {
            int difference = spreads.differenceOf(holder0, holder1, i);
            if (difference > 0) {
                parts++;
            }
            if (difference > greatest) {
                greatest = difference;
                most = i;
            }
        }
        return what == 0 ? parts : most;
    }

    private Holder holderOf(int holder) {
        return holder == 0 ? holder0 : holder1;
    }

    // ---- stories

    public int speed(int v) {
        return within(v, Stories.SPEEDS) ? stories.changeSpeed(v) : OUTSIDE;
    }

    public int claim(int land, int other, int age, boolean beside, int weight) {
        if (!areTwoLands(land, other)) {
            return UNKNOWN;
        }
        if (!within(age, AGES) || weight < 1 || weight > 99) {
            return OUTSIDE;
        }
        return stories.isFull() ? FULL : stories.add(land, other, age, beside, weight);
    }

    public int story(int land, int what) {
        if (!isLand(land)) {
            return UNKNOWN;
        }
        if (what != 0 && !within(what - 10, AGES)) {
            return OUTSIDE;
        }
        stories.tell(land);
        return what == 0 ? stories.leastPrice() : stories.placeAt(what - 10);
    }

    public int judge(int land, long told) {
        if (!isLand(land)) {
            return UNKNOWN;
        }
        if (told < 0 || told >> 4 * AGES != 0) {
            return OUTSIDE;
        }
        return stories.priceOf(land, told);
    }

    // ---- poles, floors

    public int pole(int land, int put, int v, int what) {
        if (land != NONE && !isLand(land) || put != NONE && !isLand(put)) {
            return UNKNOWN;
        }
        if (!within(v, COLUMNS) || !within(what, 3)) {
            return OUTSIDE;
        }
        poles.seek(land, put, v);
        switch (what) {
            case 0:
                return poles.least;
            case 1:
                return poles.agree;
            default:
                return poles.many;
        }
    }

    public int floor(int stripes) {
        return stripes < 0 || stripes > Stripes.GREATEST ? OUTSIDE : this.stripes.change(stripes);
    }

    public int mirror(int place) {
        return place < 1 || place >= Stripes.MANY ? OUTSIDE : stripes.sameAbout(place);
    }

    public int ridge() {
        return stripes.bestPlace();
    }

    // ---- what is told

    public int count(int what) {
        switch (what) {
            case 0:
                return globe.sizeOfAll();
            case 1:
                return marks.size();
            case 2:
                return holder0.size();
            case 3:
                return holder1.size();
            case 4:
                return beasts.size();
            case 5:
                return stories.size();
            case 6:
                return page.size();
            default:
                return OUTSIDE;
        }
    }

    public long digest() {
        long h = globe.toldCells(313);
        h = marks.told(h);
        h = globe.toldDistances(h);
        h = spreads.told(h, holder0, holder1);
        h = stories.told(h);
        h = stripes.told(h);
        h = page.told(h);
        for (int what = 0; what <= 6; what++) {
            h = then(h, count(what));
        }
        return h;
    }

    private static long then(long h, long number) {
        return 31 * h + number;
    }

    private static boolean within(int number, int bound) {
        return number >= 0 && number < bound;
    }

    private static boolean isLand(int land) {
        return within(land, LANDS);
    }

    private static boolean areTwoLands(int a, int b) {
        return isLand(a) && isLand(b) && a != b;
    }

    private static boolean isPlace(int u, int v) {
        return u >= -FARTHEST && u <= FARTHEST && within(v, COLUMNS);
    }

    private static int eastOf(int column, int steps) {
        return column + steps & COLUMNS - 1;
    }

    private static int ringDistance(int a, int b) {
        int east = eastOf(a, COLUMNS - b);
        return Math.min(east, COLUMNS - east);
    }

    /** The steps between two cells, of rows and of columns together. */
    private static int stepsBetween(int cell, int other) {
        return Math.abs(cell / COLUMNS - other / COLUMNS) + ringDistance(cell % COLUMNS, other % COLUMNS);
    }

    /** One part of a fraction in lowest terms. */
    private static int reduced(int part, int other) {
        for (int divisor = Math.min(part, other); divisor > 1; divisor--) {
            if (part % divisor == 0 && other % divisor == 0) {
                return part / divisor;
            }
        }
        return part;
    }

    /** Which cells are of which land, also as a mask of columns for each row of each land. */
    private static final class Globe {
        private static final int RING = 0xFFFF, APART_FROM_NOTHING = 99, UNMEASURED = 0;

        private final int[] owners = new int[CELLS];
        private final int[] masks = new int[LANDS * ROWS];
        // Distances are asked far more often than cells change, so they are kept until one does.
        private final int[] distances = new int[LANDS * LANDS];

        Globe() {
            Arrays.fill(owners, NONE);
        }

        int ownerOf(int cell) {
            return owners[cell];
        }

        int maskOf(int land, int row) {
            return masks[land * ROWS + row];
        }

        void give(int cell, int land) {
            int row = cell / COLUMNS;
            int bit = 1 << cell % COLUMNS;
            if (owners[cell] != NONE) {
                masks[owners[cell] * ROWS + row] &= ~bit;
            }
            if (land != NONE) {
                masks[land * ROWS + row] |= bit;
            }
            owners[cell] = land;
            Arrays.fill(distances, UNMEASURED);
        }

        int giveRun(int land, int row, int column, int many) {
            int given = 0;
            for (int i = 0; i < many; i++) {
                int cell = row * COLUMNS + eastOf(column, i);
                if (owners[cell] == NONE) {
                    give(cell, land);
                    given++;
                }
            }
            return given;
        }

        int sizeOf(int land) {
            int size = 0;
            for (int row = 0; row < ROWS; row++) {
                size += Integer.bitCount(maskOf(land, row));
            }
            return size;
        }

        int sizeOfAll() {
            int size = 0;
            for (int land = 0; land < LANDS; land++) {
                size += sizeOf(land);
            }
            return size;
        }

        int leastCellOf(int land) {
            for (int row = 0; row < ROWS; row++) {
                int mask = maskOf(land, row);
                if (mask != 0) {
                    return row * COLUMNS + Integer.numberOfTrailingZeros(mask);
                }
            }
            return NONE;
        }

        boolean staysInRows(int land, int u) {
            for (int row = 0; row < ROWS; row++) {
                if (maskOf(land, row) != 0 && !within(row + u, ROWS)) {
                    return false;
                }
            }
            return true;
        }

        /** A mask of columns, so many columns further east. */
        static int turned(int mask, int east) {
            return (mask << east | mask >>> COLUMNS - east) & RING;
        }

        int apart(int a, int b) {
            int place = Math.min(a, b) * LANDS + Math.max(a, b);
            if (distances[place] == UNMEASURED) {
                distances[place] = measure(a, b);
            }
            return distances[place];
        }

        private int measure(int a, int b) {
            int least = APART_FROM_NOTHING;
            for (int row = 0; row < ROWS; row++) {
                int mask = maskOf(a, row);
                for (int other = 0; mask != 0 && other < ROWS; other++) {
                    int otherMask = maskOf(b, other);
                    if (otherMask != 0) {
                        least = Math.min(least, Math.abs(row - other) + columnsApart(mask, otherMask));
                    }
                }
            }
            return least;
        }

        private static int columnsApart(int mask, int other) {
            // The ring twice, so that a shift by some columns is a turn of it.
            int twice = other << COLUMNS | other;
            for (int steps = 0; steps < COLUMNS / 2; steps++) {
                if ((mask & (twice >>> steps | twice >>> COLUMNS - steps)) != 0) {
                    return steps;
                }
            }
            return COLUMNS / 2;
        }

        long toldCells(long h) {
            for (int cell = 0; cell < CELLS; cell++) {
                h = then(h, owners[cell]);
            }
            return h;
        }

        long toldDistances(long h) {
            for (int a = 0; a < LANDS; a++) {
                for (int b = a + 1; b < LANDS; b++) {
                    h = then(h, apart(a, b));
                }
            }
            return h;
        }
    }

    /** The marks in the order in which they were made; each stays on its cell, whose land it keeps fixed. */
    private static final class Marks {
        private static final int MOST = 40, KINDS = 6, NUMBERS = 16;
        private static final int MARK = 0, BED = 1, FOLD = 2, SCRATCH = 3, NEEDLE = 4, MOVED = 5;
        private static final int[] WEIGHTS = {1, 3, 4, 1, 0, 2};

        private final Globe globe;
        private final int[] kinds = new int[MOST];
        private final int[] cells = new int[MOST];
        private final int[] numbers = new int[MOST];
        private int size;

        Marks(Globe globe) {
            this.globe = globe;
        }

        int size() {
            return size;
        }

        boolean isFull() {
            return size >= MOST;
        }

        int add(int kind, int cell, int n) {
            kinds[size] = kind;
            cells[size] = cell;
            numbers[size] = n;
            size++;
            return size - 1;
        }

        int removeLast() {
            size--;
            return size;
        }

        int kindOf(int mark) {
            return kinds[mark];
        }

        int cellOf(int mark) {
            return cells[mark];
        }

        int numberOf(int mark) {
            return numbers[mark];
        }

        int weightOf(int mark) {
            return WEIGHTS[kinds[mark]];
        }

        int landOf(int mark) {
            return globe.ownerOf(cells[mark]);
        }

        boolean isNeedle(int mark) {
            return kinds[mark] == NEEDLE;
        }

        boolean isOf(int mark, int kind) {
            return kind == MARK || kind == kinds[mark] || kind == FOLD && kinds[mark] == MOVED;
        }

        boolean anyOn(int cell) {
            for (int i = 0; i < size; i++) {
                if (cells[i] == cell) {
                    return true;
                }
            }
            return false;
        }

        int howManyOn(int land) {
            int many = 0;
            for (int i = 0; i < size; i++) {
                if (landOf(i) == land) {
                    many++;
                }
            }
            return many;
        }

        boolean leadsInto(int mark, int other) {
            if (kinds[mark] != kinds[other]) {
                return false;
            }
            switch (kinds[mark]) {
                case BED:
                    return Math.abs(numbers[mark] - numbers[other]) <= 1;
                case SCRATCH:
                    return numbers[mark] % 4 == numbers[other] % 4;
                case NEEDLE:
                    return false;
                default:
                    return numbers[mark] == numbers[other];
            }
        }

        /** ON of land a and of land b put by (u, v). */
        int goingOn(int a, int b, int u, int v) {
            int sum = 0;
            for (int i = 0; i < size; i++) {
                if (landOf(i) == a) {
                    sum += goingOnFrom(i, b, u, v);
                }
            }
            return sum;
        }

        private int goingOnFrom(int mark, int b, int u, int v) {
            int sum = 0;
            for (int i = 0; i < size; i++) {
                if (kinds[i] == kinds[mark] && landOf(i) == b && isNextTo(cells[mark], cells[i], u, v)) {
                    sum += leadsInto(mark, i) ? weightOf(mark) : -weightOf(mark);
                }
            }
            return sum;
        }

        private static boolean isNextTo(int cell, int moved, int u, int v) {
            return cell / COLUMNS == moved / COLUMNS + u
                && ringDistance(cell % COLUMNS, eastOf(moved % COLUMNS, v)) == 1;
        }

        long told(long h) {
            for (int i = 0; i < size; i++) {
                h = then(h, kinds[i]);
                h = then(h, cells[i]);
                h = then(h, numbers[i]);
                h = then(h, weightOf(i));
            }
            return h;
        }
    }

    /** How a land at home and another one put somewhere lie: of one place, or over all places. */
    private static final class Fits {
        private static final int LONGEST_GAP = 3;

        private final Globe globe;
        // What look() saw at its place:
        private int overlap;
        private int touch;
        private int gap;
        // What survey() found over all places:
        private int counted;
        private int notDearer;
        private int bestU;
        private int bestV;
        private int bestPrice;

        Fits(Globe globe) {
            this.globe = globe;
        }

        /** Looks at b put by (u, v) beside a; b has to stay in the rows. */
        void look(int a, int b, int u, int v) {
            overlap = 0;
            touch = 0;
            gap = 0;
            for (int row = Math.max(0, u); row < Math.min(ROWS, ROWS + u); row++) {
                int home = globe.maskOf(a, row);
                int moved = Globe.turned(globe.maskOf(b, row - u), v);
                if (home != 0 && moved != 0) {
                    lookAtRow(home, moved);
                }
            }
        }

        private void lookAtRow(int home, int moved) {
            overlap += Integer.bitCount(home & moved);
            touch += Integer.bitCount(home & Globe.turned(moved, 1))
                + Integer.bitCount(home & Globe.turned(moved, COLUMNS - 1));
            int free = ~(home | moved) & Globe.RING;
            // The columns behind which so many free ones follow, told by the column that the gap begins behind.
            int before = Globe.RING;
            for (int length = 1; length <= LONGEST_GAP; length++) {
                before &= Globe.turned(free, COLUMNS - length);
                int back = COLUMNS - length - 1;
                int ends = home & Globe.turned(moved, back) | moved & Globe.turned(home, back);
                gap += length * Integer.bitCount(before & ends);
            }
        }

        int price() {
            return 3 * overlap + gap - touch;
        }

        boolean isCounted() {
            return touch + overlap >= 1;
        }

        /** Of all places: how many count, how many of these cost no more than the limit, and the best one. */
        void survey(int a, int b, int limit) {
            counted = 0;
            notDearer = 0;
            for (int u = -FARTHEST; u <= FARTHEST; u++) {
                if (globe.staysInRows(b, u)) {
                    surveyRing(a, b, u, limit);
                }
            }
        }

        private void surveyRing(int a, int b, int u, int limit) {
            for (int v = 0; v < COLUMNS; v++) {
                look(a, b, u, v);
                if (isCounted()) {
                    take(u, v, limit);
                }
            }
        }

        private void take(int u, int v, int limit) {
            int price = price();
            if (counted == 0 || price < bestPrice) {
                bestPrice = price;
                bestU = u;
                bestV = v;
            }
            counted++;
            if (price <= limit) {
                notDearer++;
            }
        }
    }

    /** The page, and the states in which the reader of a law stands behind each of its letters. */
    private static final class Page {
        private static final int MOST = 50, GREATEST_CODE = 126;
        private static final int AT_START = 0, AFTER_WAY = 1, AFTER_COLON = 2, AFTER_DIGIT = 3, AFTER_NUMBER = 4,
            BEFORE_FACTOR = 5, AFTER_LETTER = 6, AFTER_SIGN = 7, AFTER_FACTOR_DIGIT = 8, AFTER_FACTOR = 9;

        private final int[] letters = new int[MOST];
        private int size;

        int size() {
            return size;
        }

        int letterAt(int place) {
            return letters[place];
        }

        private static int byteOf(long w, int i) {
            return (int) (w >>> 8 * i & 255);
        }

        static boolean isTold(long w) {
            boolean ended = false;
            for (int i = 0; i < 8; i++) {
                int code = byteOf(w, i);
                if (code > GREATEST_CODE || ended && code != 0) {
                    return false;
                }
                ended = code == 0;
            }
            return true;
        }

        private static int howManyIn(long w) {
            int many = 0;
            for (int i = 0; i < 8; i++) {
                if (byteOf(w, i) != 0) {
                    many++;
                }
            }
            return many;
        }

        boolean hasRoomFor(long w) {
            return size + howManyIn(w) <= MOST;
        }

        int write(long w) {
            int many = howManyIn(w);
            for (int i = 0; i < many; i++) {
                letters[size + i] = byteOf(w, i);
            }
            size += many;
            return size;
        }

        int wipe() {
            int was = size;
            size = 0;
            return was;
        }

        int faultPlace() {
            int state = AT_START;
            for (int i = 0; i < size; i++) {
                state = next(state, letters[i]);
                if (state == NONE) {
                    return i;
                }
            }
            return size;
        }

        boolean isLaw() {
            int state = AT_START;
            for (int i = 0; i < size; i++) {
                state = next(state, letters[i]);
            }
            return state == AFTER_DIGIT || state == AFTER_NUMBER
                || state == AFTER_FACTOR_DIGIT || state == AFTER_FACTOR;
        }

        /** The state behind a letter; NONE, if no law has it there. Every state leads on to some law. */
        static int next(int state, int letter) {
            switch (state) {
                case AT_START:
                    return isOneOf(letter, Law.WAYS) ? AFTER_WAY : NONE;
                case AFTER_WAY:
                    return letter == ':' ? AFTER_COLON : NONE;
                case AFTER_COLON:
                    return isDigit(letter) ? AFTER_DIGIT : NONE;
                case AFTER_DIGIT:
                    return isDigit(letter) ? AFTER_NUMBER : behindNumber(letter);
                case AFTER_NUMBER:
                    return behindNumber(letter);
                case BEFORE_FACTOR:
                    return letter == '!' ? BEFORE_FACTOR : isOneOf(letter, Law.LETTERS) ? AFTER_LETTER : NONE;
                case AFTER_LETTER:
                    return isOneOf(letter, Law.SIGNS) ? AFTER_SIGN : NONE;
                case AFTER_SIGN:
                    return isDigit(letter) ? AFTER_FACTOR_DIGIT : NONE;
                case AFTER_FACTOR_DIGIT:
                    return isDigit(letter) ? AFTER_FACTOR : behindFactor(letter);
                case AFTER_FACTOR:
                    return behindFactor(letter);
                default:
                    return NONE;
            }
        }

        private static int behindNumber(int letter) {
            return letter == '?' ? BEFORE_FACTOR : NONE;
        }

        private static int behindFactor(int letter) {
            return letter == '&' || letter == '|' ? BEFORE_FACTOR : NONE;
        }

        private static boolean isOneOf(int letter, String letters) {
            return letters.indexOf((char) letter) >= 0;
        }

        private static boolean isDigit(int letter) {
            return letter >= '0' && letter <= '9';
        }

        long told(long h) {
            for (int i = 0; i < size; i++) {
                h = then(h, letters[i]);
            }
            return h;
        }
    }

    /** One law as it was read: a way, its price, and the factors of its condition in a row. */
    private static final class Law {
        private static final String WAYS = "JBSC", LETTERS = "dek", SIGNS = "<=>";
        // A page of 50 letters has room for eleven factors.
        private static final int MOST = 12;

        private int way;
        private int price;
        private int factors;
        private boolean denied;
        private boolean opening;
        private final int[] letters = new int[MOST];
        private final int[] signs = new int[MOST];
        private final int[] numbers = new int[MOST];
        private final boolean[] deny = new boolean[MOST];
        private final boolean[] opens = new boolean[MOST];

        /** Reads a page that is a law. */
        void read(Page page) {
            price = 0;
            factors = 0;
            int state = Page.AT_START;
            for (int i = 0; i < page.size(); i++) {
                state = Page.next(state, page.letterAt(i));
                if (factors < MOST) {
                    take(state, page.letterAt(i));
                }
            }
        }

        private void take(int state, int letter) {
            switch (state) {
                case Page.AFTER_WAY:
                    way = WAYS.indexOf((char) letter);
                    break;
                case Page.AFTER_DIGIT:
                case Page.AFTER_NUMBER:
                    price = 10 * price + letter - '0';
                    break;
                case Page.BEFORE_FACTOR:
                    takeAheadOfFactor(letter);
                    break;
                case Page.AFTER_LETTER:
                    letters[factors] = letter;
                    deny[factors] = denied;
                    opens[factors] = opening;
                    break;
                case Page.AFTER_SIGN:
                    signs[factors] = letter;
                    break;
                case Page.AFTER_FACTOR_DIGIT:
                    numbers[factors] = letter - '0';
                    factors++;
                    break;
                case Page.AFTER_FACTOR:
                    takeSecondDigit(letter - '0');
                    break;
                default:
                    break;
            }
        }

        private void takeAheadOfFactor(int letter) {
            if (letter == '!') {
                denied = !denied;
            } else {
                denied = false;
                opening = letter != '&';
            }
        }

        private void takeSecondDigit(int digit) {
            int last = factors - 1;
            if (last >= 0) {
                numbers[last] = 10 * numbers[last] + digit;
            }
        }

        /** Whether the condition holds: one of its terms, with all its factors. */
        boolean holds(int d, int e, int k) {
            boolean term = true;
            for (int i = 0; i < factors; i++) {
                if (opens[i]) {
                    if (i > 0 && term) {
                        return true;
                    }
                    term = true;
                }
                term = term && factorHolds(i, d, e, k);
            }
            return term;
        }

        private boolean factorHolds(int i, int d, int e, int k) {
            int value = letters[i] == 'd' ? d : letters[i] == 'e' ? e : k;
            boolean so = signs[i] == '<' ? value < numbers[i]
                : signs[i] == '=' ? value == numbers[i] : value > numbers[i];
            return so != deny[i];
        }
    }

    /** A holder's laws, and the way that choose() found. */
    private static final class Holder {
        private static final int MOST = 8, JOINED = 0, WAYS = 4;

        private final Law[] laws = new Law[MOST];
        private final int[] asked = new int[WAYS];
        private int size;
        private int price;
        private int way;

        Holder() {
            for (int i = 0; i < MOST; i++) {
                laws[i] = new Law();
            }
        }

        int size() {
            return size;
        }

        boolean isFull() {
            return size >= MOST;
        }

        int read(Page page) {
            laws[size].read(page);
            size++;
            return size;
        }

        int removeLast() {
            size--;
            return size;
        }

        /** Finds the cheapest way and its price; NONE for both, if there is none. */
        void choose(int d, int e, int k) {
            Arrays.fill(asked, NONE);
            for (int i = size - 1; i >= 0; i--) {
                Law law = laws[i];
                if (asked[law.way] == NONE && law.holds(d, e, k)) {
                    asked[law.way] = law.price;
                }
            }
            price = NONE;
            way = NONE;
            for (int i = 0; i < WAYS; i++) {
                boolean open = asked[i] != NONE && (i != JOINED || d == 1);
                if (open && (price == NONE || asked[i] < price)) {
                    price = asked[i];
                    way = i;
                }
            }
        }
    }

    private static final class Beasts {
        private static final int MOST = 8;

        private final int[] lands = new int[MOST];
        private final int[] ages = new int[MOST];
        private int size;

        int size() {
            return size;
        }

        boolean isFull() {
            return size >= MOST;
        }

        int add(int set, int age) {
            lands[size] = set;
            ages[size] = age;
            size++;
            return size - 1;
        }

        int landsOf(int beast) {
            return lands[beast];
        }

        int ageOf(int beast) {
            return ages[beast];
        }

        int howManyLands(int beast) {
            return Integer.bitCount(lands[beast]);
        }
    }

    /** The cheapest tree of crossings over the lands of a beast, and over further ones. */
    private static final class Spreads {
        private static final int SETS = 1 << LANDS, PRICE_OF_NONE = 999;

        private final Globe globe;
        private final Beasts beasts;
        private final int[] prices = new int[LANDS * LANDS];
        private final int[] reach = new int[LANDS];
        private int price;
        private int further;

        Spreads(Globe globe, Beasts beasts) {
            this.globe = globe;
            this.beasts = beasts;
        }

        /** Finds price and further lands; NONE for both, if the lands of the beast cannot be joined. */
        int solve(Holder holder, int beast) {
            ask(holder, beast);
            int lands = beasts.landsOf(beast);
            price = NONE;
            further = NONE;
            for (int set = 0; set < SETS; set++) {
                if ((set & lands) == 0) {
                    take(set, priceOfTree(set | lands));
                }
            }
            return price;
        }

        // Sets come with their bits rising, so that of like ones the first stays.
        private void take(int set, int asked) {
            if (asked == NONE) {
                return;
            }
            boolean fewer = asked == price && Integer.bitCount(set) < Integer.bitCount(further);
            if (price == NONE || asked < price || fewer) {
                price = asked;
                further = set;
            }
        }

        private void ask(Holder holder, int beast) {
            int age = beasts.ageOf(beast);
            int many = beasts.howManyLands(beast);
            for (int a = 0; a < LANDS; a++) {
                for (int b = a + 1; b < LANDS; b++) {
                    holder.choose(globe.apart(a, b), age, many);
                    prices[a * LANDS + b] = holder.price;
                    prices[b * LANDS + a] = holder.price;
                }
            }
        }

        /** The price of the cheapest tree over just these lands, grown land by land; NONE: there is none. */
        private int priceOfTree(int lands) {
            int joined = 0;
            int sum = 0;
            Arrays.fill(reach, NONE);
            int land = Integer.numberOfTrailingZeros(lands);
            for (int i = Integer.bitCount(lands); i > 1; i--) {
                joined |= 1 << land;
                reachFrom(land);
                land = nearest(lands & ~joined);
                if (land == NONE) {
                    return NONE;
                }
                sum += reach[land];
            }
            return sum;
        }

        private void reachFrom(int land) {
            for (int i = 0; i < LANDS; i++) {
                int asked = prices[land * LANDS + i];
                if (i != land && asked != NONE && (reach[i] == NONE || asked < reach[i])) {
                    reach[i] = asked;
                }
            }
        }

        private int nearest(int lands) {
            int best = NONE;
            for (int i = 0; i < LANDS; i++) {
                boolean open = (lands >> i & 1) == 1 && reach[i] != NONE;
                if (open && (best == NONE || reach[i] < reach[best])) {
                    best = i;
                }
            }
            return best;
        }

        int differenceOf(Holder holder, Holder other, int beast) {
            int first = solve(holder, beast);
            int second = solve(other, beast);
            return Math.abs((first == NONE ? PRICE_OF_NONE : first) - (second == NONE ? PRICE_OF_NONE : second));
        }

        long told(long h, Holder holder, Holder other) {
            for (int i = 0; i < beasts.size(); i++) {
                h = then(h, beasts.landsOf(i));
                h = then(h, beasts.ageOf(i));
                h = then(h, solve(holder, i));
                h = then(h, solve(other, i));
            }
            return h;
        }
    }

    /** Claims on lands, and the cheapest story that they let a land have. */
    private static final class Stories {
        private static final int MOST = 12, SPEEDS = 8;

        private final Fits fits;
        private final int[] lands = new int[MOST];
        private final int[] others = new int[MOST];
        private final int[] ages = new int[MOST];
        private final boolean[] besides = new boolean[MOST];
        private final int[] weights = new int[MOST];
        private int size;
        private int speed = 2;
        // For each age and v: the weights of claims that do not hold there; the least price from there on.
        private final int[] owed = new int[AGES * COLUMNS];
        private final int[] least = new int[AGES * COLUMNS];
        private final int[] places = new int[AGES];

        Stories(Fits fits) {
            this.fits = fits;
        }

        int size() {
            return size;
        }

        boolean isFull() {
            return size >= MOST;
        }

        int changeSpeed(int columns) {
            int was = speed;
            speed = columns;
            return was;
        }

        int add(int land, int other, int age, boolean together, int weight) {
            lands[size] = land;
            others[size] = other;
            ages[size] = age;
            besides[size] = together;
            weights[size] = weight;
            size++;
            return size - 1;
        }

        private void oweAll(int land) {
            Arrays.fill(owed, 0);
            for (int i = 0; i < size; i++) {
                if (lands[i] == land) {
                    owe(i);
                }
            }
        }

        private void owe(int i) {
            for (int v = 0; v < COLUMNS; v++) {
                fits.look(others[i], lands[i], 0, v);
                boolean holds = fits.overlap == 0 && fits.touch >= 1 == besides[i];
                if (!holds) {
                    owed[ages[i] * COLUMNS + v] += weights[i];
                }
            }
        }

        /** Finds the story: the prices from the last age back, then the places from the first age on. */
        void tell(int land) {
            oweAll(land);
            for (int age = AGES - 1; age >= 0; age--) {
                for (int v = 0; v < COLUMNS; v++) {
                    int onward = age == AGES - 1 ? 0 : priceVia(age, v, bestNext(age, v));
                    least[age * COLUMNS + v] = owed[age * COLUMNS + v] + onward;
                }
            }
            places[0] = 0;
            for (int age = 1; age < AGES; age++) {
                places[age] = bestNext(age - 1, places[age - 1]);
            }
        }

        private int priceVia(int age, int v, int next) {
            return ringDistance(v, next) + least[(age + 1) * COLUMNS + next];
        }

        /** The least v of the next age by which the rest of the story is cheapest. */
        private int bestNext(int age, int v) {
            int best = v;
            int cheapest = priceVia(age, v, v);
            for (int next = 0; next < COLUMNS; next++) {
                int asked = priceVia(age, v, next);
                boolean better = asked < cheapest || asked == cheapest && next < best;
                if (better && ringDistance(v, next) <= speed) {
                    best = next;
                    cheapest = asked;
                }
            }
            return best;
        }

        int leastPrice() {
            return least[0];
        }

        int placeAt(int age) {
            return places[age];
        }

        private static int figureOf(long story, int age) {
            return (int) (story >> 4 * age & COLUMNS - 1);
        }

        /** The price of a story told in figures; NONE: no land can go so. */
        int priceOf(int land, long story) {
            if (figureOf(story, 0) != 0) {
                return NONE;
            }
            oweAll(land);
            int sum = owed[0];
            for (int age = 1; age < AGES; age++) {
                int v = figureOf(story, age);
                int gone = ringDistance(figureOf(story, age - 1), v);
                if (gone > speed) {
                    return NONE;
                }
                sum += gone + owed[age * COLUMNS + v];
            }
            return sum;
        }

        long told(long h) {
            h = then(h, speed);
            for (int i = 0; i < size; i++) {
                h = then(h, lands[i]);
                h = then(h, others[i]);
                h = then(h, ages[i]);
                h = then(h, besides[i] ? 1 : 0);
                h = then(h, weights[i]);
            }
            return h;
        }
    }

    /** The poles that needles let: the least, by how many needles, and how many such cells. */
    private static final class Poles {
        private final Marks marks;
        private final int[] agreeing = new int[CELLS];
        private int least;
        private int agree;
        private int many;

        Poles(Marks marks) {
            this.marks = marks;
        }

        void seek(int land, int put, int v) {
            Arrays.fill(agreeing, 0);
            boolean any = false;
            for (int i = 0; i < marks.size(); i++) {
                if (marks.isNeedle(i) && (land == NONE || marks.landOf(i) == land)) {
                    any = true;
                    ask(i, marks.landOf(i) == put ? v : 0);
                }
            }
            least = NONE;
            agree = 0;
            many = 0;
            for (int cell = 0; any && cell < CELLS; cell++) {
                take(cell);
            }
        }

        private void ask(int needle, int v) {
            int home = marks.cellOf(needle);
            int cell = home / COLUMNS * COLUMNS + eastOf(home % COLUMNS, v);
            for (int i = 0; i < CELLS; i++) {
                if (stepsBetween(cell, i) == marks.numberOf(needle)) {
                    agreeing[i]++;
                }
            }
        }

        private void take(int cell) {
            if (least == NONE || agreeing[cell] > agree) {
                least = cell;
                agree = agreeing[cell];
                many = 0;
            }
            if (agreeing[cell] == agree) {
                many++;
            }
        }
    }

    /** The floor. */
    private static final class Stripes {
        private static final int MANY = 24, GREATEST = (1 << MANY) - 1, MIDDLE = 12;

        private int bits;

        int change(int stripes) {
            int was = bits;
            bits = stripes;
            return was;
        }

        int sameAbout(int place) {
            int bound = Math.min(place, MANY - place);
            for (int i = 0; i < bound; i++) {
                if ((bits >> place - 1 - i & 1) != (bits >> place + i & 1)) {
                    return i;
                }
            }
            return bound;
        }

        int bestPlace() {
            int best = 1;
            int greatest = sameAbout(1);
            for (int place = 2; place < MANY; place++) {
                int same = sameAbout(place);
                boolean nearer = Math.abs(place - MIDDLE) < Math.abs(best - MIDDLE);
                if (same > greatest || same == greatest && nearer) {
                    best = place;
                    greatest = same;
                }
            }
            return best;
        }

        long told(long h) {
            return then(then(h, bits), bestPlace());
        }
    }
}
