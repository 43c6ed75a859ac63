/** The sentences on the page, laws and beasts that name a boundary case: promises 14 to 23. */
final class LawSentencesTest {
    private static final int NONE = EdgesFit.NONE, UNKNOWN = EdgesFit.UNKNOWN, OUTSIDE = EdgesFit.OUTSIDE;
    private static final int STATE = EdgesFit.STATE, FULL = EdgesFit.FULL;
    private static final int[] FAR = {Integer.MIN_VALUE, Integer.MIN_VALUE + 1, Integer.MAX_VALUE - 1, Integer.MAX_VALUE};
    private static final String DIGITS = "0123456789";
    /** What may come behind a beginning of a law; a beginning marked with '.' may end there. */
    private static final String[][] NEXT = {
        {"", "JBSC"}, {"J", ":"}, {"B", ":"}, {"S", ":"}, {"C", ":"}, {"C:", DIGITS},
        {"C:0.", DIGITS + "?"}, {"J:9.", DIGITS + "?"}, {"C:00.", "?"}, {"B:99.", "?"},
        {"C:1?", "!dek"}, {"C:12?", "!dek"}, {"C:1?!", "!dek"}, {"C:1?!!!", "!dek"},
        {"C:1?d", "<=>"}, {"C:1?e", "<=>"}, {"C:1?k", "<=>"}, {"C:1?!k", "<=>"},
        {"C:1?d<", DIGITS}, {"C:1?e=", DIGITS}, {"C:1?k>", DIGITS},
        {"C:1?d<0.", DIGITS + "&|"}, {"C:1?!d<9.", DIGITS + "&|"}, {"C:1?d<00.", "&|"}, {"C:12?k>99.", "&|"},
        {"C:1?d<1&", "!dek"}, {"C:1?d<1|", "!dek"}, {"C:1?d<12&!", "!dek"}, {"C:1?d<12|!", "!dek"},
        {"C:1?d<1&e", "<=>"}, {"C:1?d<1|e=", DIGITS}, {"C:1?d<1|e=1.", DIGITS + "&|"}, {"C:1?d<1&e=12.", "&|"}};
    private static final Sentences BY = new Sentences();

    private static void due(String call, long got, long want) {
        BY.due(call, got, want);
    }

    public static void main(String[] args) {
        lawsAtMost();
        numbersOfWays();
        numbersOfFactors();
        notAndOr();
        lettersOfTwoLands();
        distances();
        distancesOfAllPairs();
        toldLast();
        joinedAtOne();
        likeWays();
        beastBounds();
        spreadCannotBe();
        byWayOfFewest();
        byWayOfGreaterBits();
        partsAndMost();
        letterBytes();
        lettersBehindZero();
        pageFull();
        blankPage();
        faultPlaces();
        faultOfAnyLength();
        lawOrNone();
        lawBehindOtherLetters();
        longestLaws();
        lawRefused();
        strikes();
        nothingStruckIsLeft();
        distanceRefused();
        beastRefused();
        crossingAsked();
        crossingRefused();
        spreadAsked();
        unlikeAsked();
        BY.end(14, 23);
    }

    private static String repeated(String text, int times) {
        return text.repeat(times);
    }

    private static void lawsAtMost() {
        BY.of(Sentences.TERMS, "HOLDERS 0 and 1 have LAWS (8 each at most)");
        EdgesFit x = new EdgesFit();
        for (int i = 1; i <= 8; i++) {
            due("law " + i + " of holder 0", Check.tell(x, 0, "C:" + i), i);
        }
        due("the ninth of holder 0", Check.tell(x, 0, "C:9"), FULL);
        due("it is the first of holder 1", x.law(1), 1);
        for (int i = 2; i <= 8; i++) {
            due("law " + i + " of holder 1", Check.tell(x, 1, "S:" + i), i);
        }
        due("the ninth of holder 1", Check.tell(x, 1, "C:8"), FULL);
        due("nor of holder 0", x.law(0), FULL);
        x.beast(3, 0);
        due("holder 0 asks as told last", x.crossing(0, 0, 0, 1, 0), 8);
        due("holder 1 asks as told last", x.crossing(1, 0, 0, 1, 0), 8);
        due("one is struck", x.strike(0), 7);
        due("then there is room", x.law(0), 8);
    }

    /** Lands 0 and 1, so far apart (1 to 15; else without cells); a beast of an age that lives in so many lands. */
    private static EdgesFit two(int apart, int age, int lands) {
        EdgesFit x = new EdgesFit();
        if (apart >= 1 && apart <= 15) {
            x.cell(0, 0);
            x.cell(1, apart <= 8 ? apart : 16 * (apart - 8) + 8);
        }
        x.beast((1 << lands) - 1, age);
        return x;
    }

    private static int asked(String law, int apart, int age, int lands) {
        EdgesFit x = two(apart, age, lands);
        Check.tell(x, 0, law);
        return x.crossing(0, 0, 0, 1, 0);
    }

    private static void numbersOfWays() {
        BY.of(Sentences.TERMS, "a WAY (J joined, B bridge, S steps, C chance), \":\", a number (one or two digits), and perhaps \"?\" and a CONDITION");
        String ways = "JBSC";
        for (int way = 0; way < 4; way++) {
            for (int number = 0; number < 100; number++) {
                EdgesFit x = two(1, 0, 2);
                due("two digits", Check.tell(x, 0, ways.charAt(way) + ":" + number / 10 + number % 10), 1);
                due("cost " + number, x.crossing(0, 0, 0, 1, 0), number);
                due("way " + way, x.crossing(0, 0, 0, 1, 1), way);
            }
            for (int number = 0; number < 10; number++) {
                due("one digit", asked(ways.charAt(way) + ":" + number, 1, 0, 2), number);
                due("one digit and a condition", asked(ways.charAt(way) + ":" + number + "?d=1", 1, 0, 2), number);
            }
        }
        EdgesFit x = new EdgesFit();
        due("no digit", Check.tell(x, 0, "J:"), STATE);
        x.blank();
        due("three digits", Check.tell(x, 0, "J:100"), STATE);
        x.blank();
        due("no condition behind ?", Check.tell(x, 0, "J:10?"), STATE);
        x.blank();
        due("no way", Check.tell(x, 0, ":10"), STATE);
        x.blank();
        due("two ways", Check.tell(x, 0, "JB:1"), STATE);
    }

    private static boolean holds(char sign, int value, int number) {
        return sign == '<' ? value < number : sign == '=' ? value == number : value > number;
    }

    private static void numbersOfFactors() {
        BY.of(Sentences.TERMS, "or a letter d, e, k, \"<\", \"=\" or \">\", and one or two digits.");
        for (char sign : new char[] {'<', '=', '>'}) {
            for (int number = 0; number < 100; number++) {
                String two = sign + "" + number / 10 + number % 10;
                String one = sign + "" + number;
                for (int value : new int[] {1, 9, 10, 15, 99}) {
                    int want = holds(sign, value, number) ? 7 : NONE;
                    due("d" + one + " of " + value, asked("C:7?d" + one, value, 0, 2), want);
                    due("d" + two + " of " + value, asked("C:7?d" + two, value, 0, 2), want);
                }
                for (int value : new int[] {0, 1, 9}) {
                    due("e" + one + " of " + value, asked("C:7?e" + one, 3, value, 2), holds(sign, value, number) ? 7 : NONE);
                }
                for (int value : new int[] {1, 2, 6}) {
                    due("k" + one + " of " + value, asked("C:7?k" + one, 3, 5, value), holds(sign, value, number) ? 7 : NONE);
                }
            }
        }
        EdgesFit x = new EdgesFit();
        due("no digit", Check.tell(x, 0, "J:1?d<"), STATE);
        x.blank();
        due("three digits", Check.tell(x, 0, "J:1?d<100"), STATE);
        x.blank();
        due("two signs", Check.tell(x, 0, "J:1?d<=1"), STATE);
    }

    private static void condition(String condition, boolean so) {
        due(condition, asked("S:17?" + condition, 4, 6, 3), so ? 17 : NONE);
    }

    private static void notAndOr() {
        BY.of(Sentences.TERMS, "TERMS with \"|\" between (one of them at least holds)");
        condition("d=5", false);
        condition("d=4", true);
        for (int many = 2; many <= 11; many++) {
            condition(repeated("d=5|", many - 1) + "d=5", false);
            for (int at = 0; at < many - 1; at++) {
                condition(repeated("d=5|", at) + "d=4|" + repeated("d=5|", many - 2 - at) + "d=5", true);
            }
            condition(repeated("d=5|", many - 1) + "d=4", true);
        }
        BY.of(Sentences.TERMS, "TERM: FACTORS with \"&\" between (all hold)");
        for (int many = 2; many <= 11; many++) {
            condition(repeated("d=4&", many - 1) + "d=4", true);
            for (int at = 0; at < many - 1; at++) {
                condition(repeated("d=4&", at) + "d=5&" + repeated("d=4&", many - 2 - at) + "d=4", false);
            }
            condition(repeated("d=4&", many - 1) + "d=5", false);
        }
        condition("d=4|d=5&d=5", true);
        condition("d=5&d=5|d=4", true);
        condition("d=5&d=4|d=4&d=5", false);
        condition("d=5&d=4|d=5|d=4&e=6&k=3", true);
        BY.of(Sentences.TERMS, "FACTOR: \"!\" and a FACTOR");
        for (int many = 0; many <= 41; many++) {
            condition(repeated("!", many) + "d=4", many % 2 == 0);
            condition(repeated("!", many) + "d=5", many % 2 == 1);
        }
        condition("!d=5&d=5", false);
        condition("!d=5&d=4", true);
        condition("!d=4|d=4", true);
        condition("d=5|!d=5", true);
        condition("d=5|!d=4", false);
        condition("d=4&!d=4", false);
        condition("d=4&!!d=4", true);
    }

    private static void lettersOfTwoLands() {
        BY.of(Sentences.TERMS, "Letters, of two LANDS: d their DISTANCE, e AGE, k how many LANDS the BEAST lives in.");
        for (int apart = 1; apart <= 15; apart++) {
            due("d is " + apart, asked("C:1?d=" + apart, apart, 0, 1), 1);
            due("d is not " + (apart + 1), asked("C:1?d=" + (apart + 1), apart, 0, 1), NONE);
        }
        due("d is 99 without cells", asked("C:1?d=99", 0, 0, 1), 1);
        due("d is not above 99", asked("C:1?d>99", 0, 0, 1), NONE);
        due("d is not below 99", asked("C:1?d<99", 0, 0, 1), NONE);
        for (int age = 0; age <= 9; age++) {
            due("e is " + age, asked("C:1?e=" + age, 5, age, 1), 1);
            due("e is not " + (age + 1), asked("C:1?e=" + (age + 1), 5, age, 1), NONE);
        }
        for (int lands = 1; lands <= 6; lands++) {
            due("k is " + lands, asked("C:1?k=" + lands, 5, 0, lands), 1);
            due("k is not " + (lands - 1), asked("C:1?k=" + (lands - 1), 5, 0, lands), NONE);
        }
        EdgesFit x = two(3, 0, 2);
        x.beast(0b101010, 0);
        Check.tell(x, 0, "C:1?k=3");
        due("k is how many, not which", x.crossing(0, 1, 0, 1, 0), 1);
        due("k of the other beast", x.crossing(0, 0, 0, 1, 0), NONE);
    }

    private static void distances() {
        BY.of(Sentences.TERMS, "DISTANCE at HOME: the least over a CELL of each of the difference of ROWS and that of COLUMNS (the shorter way around) together; 99, if one of them has none.");
        for (int cell = 0; cell < 128; cell++) {
            for (int other = 0; other < 128; other++) {
                if (cell != other) {
                    EdgesFit x = new EdgesFit();
                    x.cell(4, cell);
                    x.cell(5, other);
                    int columns = Math.abs(cell % 16 - other % 16);
                    int want = Math.abs(cell / 16 - other / 16) + Math.min(columns, 16 - columns);
                    due("of " + cell + " and " + other, x.distance(4, 5), want);
                }
            }
        }
        EdgesFit x = new EdgesFit();
        due("neither has one", x.distance(0, 5), 99);
        x.cell(0, 0);
        due("the other one has none", x.distance(0, 5), 99);
        due("the first one has none", x.distance(5, 0), 99);
        x.cell(5, 120);
        due("the farthest", x.distance(0, 5), 15);
        x.cell(5, 112);
        due("nearer by columns", x.distance(0, 5), 7);
        x.cell(5, 8);
        due("farther by columns", x.distance(0, 5), 7);
        x.cell(5, 13);
        due("around the ring", x.distance(0, 5), 3);
        x.cell(0, 14);
        due("a further cell of the first one", x.distance(0, 5), 1);
        x.cell(NONE, 14);
        due("it is gone", x.distance(5, 0), 3);
        x.cell(NONE, 0);
        due("the last one is gone", x.distance(5, 0), 99);
        x.run(0, 7, 1, 1);
        due("a run", x.distance(5, 0), 1);
    }

    private static void distancesOfAllPairs() {
        BY.of(19, "DISTANCE.");
        // Each land one cell of row 0, so that each two are unlike far from one another.
        int[] columns = {0, 1, 3, 7, 12, 14};
        for (int order = 0; order < 2; order++) {
            EdgesFit x = new EdgesFit();
            for (int land = 0; land < 6; land++) {
                x.cell(land, columns[land]);
            }
            for (int round = 0; round < 2; round++) {
                for (int a = 0; a < 6; a++) {
                    for (int b = 0; b < 6; b++) {
                        int one = order == 0 ? a : b;
                        int other = order == 0 ? b : a;
                        int apart = Math.abs(columns[a] - columns[b]);
                        int want = a == b ? UNKNOWN : Math.min(apart, 16 - apart);
                        due("of " + one + " and " + other, x.distance(one, other), want);
                    }
                }
            }
        }
    }

    private static void toldLast() {
        BY.of(Sentences.TERMS, "A WAY costs what the LAW says that is told last, whose CONDITION holds (or is none); without one it cannot be");
        EdgesFit x = two(3, 0, 2);
        due("without a law", x.crossing(0, 0, 0, 1, 0), NONE);
        Check.tell(x, 0, "B:9?d=2");
        due("without one that holds", x.crossing(0, 0, 0, 1, 0), NONE);
        due("without one that holds: the way", x.crossing(0, 0, 0, 1, 1), NONE);
        Check.tell(x, 0, "B:9");
        due("without a condition", x.crossing(0, 0, 0, 1, 0), 9);
        Check.tell(x, 0, "B:50?d=3");
        due("told last, though dearer", x.crossing(0, 0, 0, 1, 0), 50);
        Check.tell(x, 0, "B:1?d=4");
        due("told last, but it does not hold", x.crossing(0, 0, 0, 1, 0), 50);
        Check.tell(x, 0, "B:0");
        due("for nothing", x.crossing(0, 0, 0, 1, 0), 0);
        Check.tell(x, 0, "B:99");
        due("told last without a condition", x.crossing(0, 0, 0, 1, 0), 99);
        Check.tell(x, 0, "S:98");
        due("another way", x.crossing(0, 0, 0, 1, 1), 2);
        Check.tell(x, 0, "S:99?!d=3");
        due("the eighth does not hold", x.crossing(0, 0, 0, 1, 0), 98);
        due("the other holder has none", x.crossing(1, 0, 0, 1, 0), NONE);
    }

    private static void joinedAtOne() {
        BY.of(Sentences.TERMS, "J also only if DISTANCE is 1.");
        for (int apart = 0; apart <= 15; apart++) {
            due("joined at " + (apart == 0 ? 99 : apart), asked("J:4", apart, 0, 2), apart == 1 ? 4 : NONE);
            due("bridge at " + (apart == 0 ? 99 : apart), asked("B:4", apart, 0, 2), 4);
        }
        due("a condition that does not hold", asked("J:4?e=1", 1, 0, 2), NONE);
        due("a condition that does", asked("J:4?e=0", 1, 0, 2), 4);
        EdgesFit x = new EdgesFit();
        x.cell(0, 15);
        x.cell(1, 0);
        x.cell(2, 16);
        x.cell(3, 127);
        x.beast(1, 0);
        Check.tell(x, 0, "J:4");
        due("around the ring", x.crossing(0, 0, 0, 1, 0), 4);
        due("one below the other", x.crossing(0, 0, 1, 2, 0), 4);
        due("askew around the ring", x.crossing(0, 0, 0, 2, 0), NONE);
        due("not over the poles", x.crossing(0, 0, 0, 3, 0), NONE);
    }

    private static void likeWays() {
        BY.of(Sentences.TERMS, "CROSSING two LANDS: the cheapest WAY (of like ones J, B, S, C).");
        String ways = "JBSC";
        for (int set = 1; set < 16; set++) {
            EdgesFit x = two(1, 0, 2);
            EdgesFit y = two(1, 0, 2);
            for (int way = 3; way >= 0; way--) {
                if ((set >> way & 1) == 1) {
                    Check.tell(x, 0, ways.charAt(way) + ":5");
                    Check.tell(y, 1, ways.charAt(way) + ":" + (9 - way));
                }
            }
            due("like ones of " + set, x.crossing(0, 0, 0, 1, 1), Integer.numberOfTrailingZeros(set));
            due("the cheapest is the last of " + set, y.crossing(1, 0, 0, 1, 1), 31 - Integer.numberOfLeadingZeros(set));
            due("its cost", y.crossing(1, 0, 1, 0, 0), 9 - (31 - Integer.numberOfLeadingZeros(set)));
        }
    }

    private static void beastBounds() {
        BY.of(Sentences.TERMS, "BEASTS (8 at most, numbered): a set of LANDS (bits, one at least) and an AGE (0 to 9).");
        for (int lands = 1; lands <= 63; lands++) {
            EdgesFit x = new EdgesFit();
            due("lands " + lands, x.beast(lands, lands % 10), 0);
            Check.tell(x, 0, "C:1?k=" + Integer.bitCount(lands));
            due("so many are joined", x.spread(0, 0, 0), Integer.bitCount(lands) - 1);
        }
        for (int age = 0; age <= 9; age++) {
            EdgesFit x = new EdgesFit();
            due("age " + age, x.beast(1, age), 0);
        }
        EdgesFit x = new EdgesFit();
        due("no land", x.beast(0, 0), OUTSIDE);
        due("lands 64", x.beast(64, 0), OUTSIDE);
        due("age -1", x.beast(1, -1), OUTSIDE);
        due("age 10", x.beast(1, 10), OUTSIDE);
        for (int i = 0; i < 8; i++) {
            due("beast " + i, x.beast(63 - i, 9 - i), i);
        }
        due("the ninth", x.beast(1, 0), FULL);
        due("eight", x.count(4), 8);
    }

    /** Land i in column 2 i of row 0; land 5 farther off, in row 7. */
    private static EdgesFit inARow() {
        EdgesFit x = new EdgesFit();
        for (int land = 0; land < 5; land++) {
            x.cell(land, 2 * land);
        }
        x.cell(5, 124);
        return x;
    }

    private static void dueSpread(EdgesFit x, int beast, int cost, int further) {
        due("cost of beast " + beast, x.spread(0, beast, 0), cost);
        due("by way of, beast " + beast, x.spread(0, beast, 1), further);
    }

    private static void spreadCannotBe() {
        BY.of(Sentences.TERMS, "SPREAD: the cheapest set of CROSSINGS by which all LANDS of the set are joined to one another, also over LANDS that are not of it: its COST; NONE: they cannot be.");
        EdgesFit x = inARow();
        for (int land = 0; land < 6; land++) {
            x.beast(1 << land, 0);
            dueSpread(x, land, 0, 0);
        }
        x.beast(0b10001, 0);
        x.beast(63, 0);
        dueSpread(x, 6, NONE, NONE);
        dueSpread(x, 7, NONE, NONE);
        Check.tell(x, 0, "B:3?d=2");
        dueSpread(x, 6, 12, 0b01110);
        dueSpread(x, 7, NONE, NONE);
        Check.tell(x, 0, "C:99?d>7");
        dueSpread(x, 7, 12 + 99, 0);
        Check.tell(x, 0, "C:99");
        Check.tell(x, 0, "B:99");
        dueSpread(x, 7, 5 * 99, 0);
        dueSpread(x, 6, 99, 0);
        Check.tell(x, 0, "S:0");
        dueSpread(x, 7, 0, 0);
        dueSpread(x, 0, 0, 0);
    }

    private static void byWayOfFewest() {
        BY.of(Sentences.TERMS, "BY WAY of: of all sets of further LANDS so that all of these and of the set can be joined for just that COST the one of fewest, of like ones of least bits.");
        EdgesFit x = inARow();
        x.beast(0b10001, 0);
        Check.tell(x, 0, "B:3?d=2");
        dueSpread(x, 0, 12, 0b01110);
        Check.tell(x, 0, "S:6?d=4");
        dueSpread(x, 0, 12, 0b00100);
        Check.tell(x, 0, "C:9?d=6");
        dueSpread(x, 0, 12, 0b00010);
        Check.tell(x, 0, "C:12?d=8");
        dueSpread(x, 0, 12, 0);
        Check.tell(x, 0, "C:13?d=8");
        dueSpread(x, 0, 12, 0b00010);
        Check.tell(x, 0, "C:11?d=8");
        dueSpread(x, 0, 11, 0);
        EdgesFit free = inARow();
        free.beast(0b10001, 0);
        Check.tell(free, 0, "C:0");
        dueSpread(free, 0, 0, 0);
        EdgesFit star = new EdgesFit();
        star.cell(5, 32);
        star.cell(0, 33);
        star.cell(1, 47);
        star.cell(2, 16);
        star.cell(3, 48);
        star.beast(0b001111, 0);
        star.beast(0b101111, 0);
        Check.tell(star, 0, "J:1");
        dueSpread(star, 0, 4, 0b100000);
        dueSpread(star, 1, 4, 0);
        Check.tell(star, 0, "B:1");
        dueSpread(star, 0, 3, 0);
        EdgesFit like = new EdgesFit();
        like.cell(1, 32);
        like.cell(4, 34);
        like.cell(0, 49);
        like.cell(2, 33);
        like.cell(3, 17);
        like.beast(0b010010, 0);
        Check.tell(like, 0, "J:1");
        Check.tell(like, 0, "S:1?d=2");
        due("straight", like.spread(0, 0, 1), 0);
        like.strike(0);
        dueSpread(like, 0, 2, 0b000100);
    }

    private static void byWayOfGreaterBits() {
        BY.of(Sentences.TERMS, "the one of fewest, of like ones of least bits.");
        EdgesFit x = new EdgesFit();
        x.cell(0, 0);
        x.cell(1, 1);
        x.cell(2, 2);
        x.cell(4, 3);
        x.cell(3, 65);
        x.beast(0b10001, 0);
        Check.tell(x, 0, "J:1");
        dueSpread(x, 0, 3, 0b00110);
        // Land 3 is five steps from lands 0 and 2, six from land 4.
        Check.tell(x, 0, "B:1?d=5");
        Check.tell(x, 0, "S:2?d=6");
        dueSpread(x, 0, 3, 0b01000);
        Check.tell(x, 0, "S:3?d=6");
        dueSpread(x, 0, 3, 0b00110);
        Check.tell(x, 0, "S:1?d=6");
        dueSpread(x, 0, 2, 0b01000);
        Check.tell(x, 0, "C:4?d=3");
        dueSpread(x, 0, 2, 0b01000);
        Check.tell(x, 0, "C:2?d=3");
        dueSpread(x, 0, 2, 0);
    }

    private static void partsAndMost() {
        BY.of(Sentences.TERMS, "PARTS: how many BEASTS cost unlike by both HOLDERS; MOST: the BEAST by which they are most unlike (NONE counts as 999), of like ones the least.");
        EdgesFit x = new EdgesFit();
        for (int i = 0; i < 8; i++) {
            x.beast(i < 4 ? 3 : 7, i);
        }
        due("no law: all are alike", x.unlike(0), 0);
        due("no law: none", x.unlike(1), NONE);
        Check.tell(x, 0, "C:9");
        due("none by one: all are unlike", x.unlike(0), 8);
        due("999 less 9 is more than 999 less 18", x.unlike(1), 0);
        Check.tell(x, 1, "C:9");
        due("alike again", x.unlike(0), 0);
        due("alike again: none", x.unlike(1), NONE);
        Check.tell(x, 1, "C:8?e=7");
        due("one is unlike by 2", x.unlike(0), 1);
        due("the last one", x.unlike(1), 7);
        Check.tell(x, 1, "C:11?e=3");
        due("two are unlike by 2", x.unlike(0), 2);
        due("of like ones the least", x.unlike(1), 3);
        Check.tell(x, 1, "C:12?e=5");
        due("three", x.unlike(0), 3);
        due("most is by 6", x.unlike(1), 5);
        x.strike(0);
        due("none by the other one: all", x.unlike(0), 8);
        due("999 less 9", x.unlike(1), 0);
        EdgesFit y = new EdgesFit();
        y.beast(3, 0);
        y.beast(3, 1);
        Check.tell(y, 0, "C:0?e=0");
        Check.tell(y, 1, "C:99?e=1");
        due("NONE and 0, NONE and 99", y.unlike(0), 2);
        due("999 less 0 is most", y.unlike(1), 0);
        EdgesFit z = new EdgesFit();
        z.beast(63, 0);
        z.beast(3, 1);
        Check.tell(z, 0, "C:99");
        Check.tell(z, 1, "C:0?e=0");
        due("495 and 0; 99 and NONE", z.unlike(1), 1);
    }

    private static long bytes(int... codes) {
        long w = 0;
        for (int i = codes.length - 1; i >= 0; i--) {
            w = w << 8 | codes[i];
        }
        return w;
    }

    private static void letterBytes() {
        BY.of(14, "OUTSIDE: a byte above 126");
        for (int place = 0; place < 8; place++) {
            for (int code = 0; code < 256; code++) {
                int[] codes = new int[place + 1];
                java.util.Arrays.fill(codes, 65);
                codes[place] = code;
                EdgesFit x = new EdgesFit();
                int want = code > 126 ? OUTSIDE : code == 0 ? place : place + 1;
                due("code " + code + " at " + place, x.letters(bytes(codes)), want);
                due("letters of the page", x.count(6), Math.max(0, want));
            }
        }
        EdgesFit x = new EdgesFit();
        due("all 126", x.letters(0x7E7E7E7E7E7E7E7EL), 8);
        due("all 1", x.letters(0x0101010101010101L), 16);
        due("-1", x.letters(-1), OUTSIDE);
        due("the least long", x.letters(Long.MIN_VALUE), OUTSIDE);
        due("the greatest long", x.letters(Long.MAX_VALUE), OUTSIDE);
        due("none", x.letters(0), 16);
    }

    private static void lettersBehindZero() {
        BY.of(14, "or one behind a 0 that is not 0");
        for (int zero = 0; zero < 8; zero++) {
            for (int behind = zero + 1; behind < 8; behind++) {
                for (int code : new int[] {1, 65, 126, 127, 255}) {
                    int[] codes = new int[8];
                    java.util.Arrays.fill(codes, 0, zero, 65);
                    codes[behind] = code;
                    EdgesFit x = new EdgesFit();
                    due("0 at " + zero + ", " + code + " at " + behind, x.letters(bytes(codes)), OUTSIDE);
                    due("no letter", x.count(6), 0);
                }
            }
        }
        BY.of(14, "Letters come behind THE PAGE, up to eight, told by their codes in the bytes of w, the lowest byte first, until a byte that is 0: how many THE PAGE has.");
        for (int many = 0; many <= 8; many++) {
            EdgesFit x = new EdgesFit();
            due(many + " letters", x.letters(Check.packed("C:12?d<1".substring(0, many))), many);
            due("in their order", x.fault(), many);
        }
        EdgesFit x = new EdgesFit();
        x.letters(Check.packed("C:12"));
        x.letters(0);
        x.letters(Check.packed("?d<1"));
        due("behind those of the page", x.fault(), 8);
    }

    private static EdgesFit page(int letters) {
        EdgesFit x = new EdgesFit();
        Check.write(x, repeated("a", letters));
        return x;
    }

    private static void pageFull() {
        BY.of(14, "FULL: above 50.");
        for (int letters = 40; letters <= 50; letters++) {
            for (int more = 0; more <= 8; more++) {
                EdgesFit x = page(letters);
                int all = letters + more;
                due(letters + " and " + more, x.letters(Check.packed(repeated("b", more))), all > 50 ? FULL : all);
                due("then the page has", x.count(6), all > 50 ? letters : all);
            }
            due("a wrong byte is told first", page(letters).letters(-1), OUTSIDE);
            due("one behind a 0 is told first", page(letters).letters(65L << 56), OUTSIDE);
        }
        EdgesFit x = page(50);
        due("nothing more", x.letters(0), 50);
        due("one more", x.letters(65), FULL);
        due("blank", x.blank(), 50);
        due("room again", x.letters(Check.packed("12345678")), 8);
    }

    private static void blankPage() {
        BY.of(15, "THE PAGE is empty: how many letters it had.");
        due("of a new object", new EdgesFit().blank(), 0);
        for (int letters = 0; letters <= 50; letters++) {
            EdgesFit x = page(letters);
            due(letters + " letters", x.blank(), letters);
            due("none is left", x.blank(), 0);
            due("none is counted", x.count(6), 0);
            due("no fault is left", x.fault(), 0);
        }
    }

    private static void faultPlaces() {
        BY.of(16, "The place (from 0) of the first letter of THE PAGE that no LAW (of any length) has there, behind those ahead of it; how many letters it has, if there is none.");
        due("an empty page", new EdgesFit().fault(), 0);
        for (String[] next : NEXT) {
            String begun = next[0].replace(".", "");
            EdgesFit start = new EdgesFit();
            Check.write(start, begun);
            due("of " + begun, start.fault(), begun.length());
            for (int code = 1; code <= 126; code++) {
                EdgesFit x = new EdgesFit();
                Check.write(x, begun + (char) code);
                boolean had = next[1].indexOf(code) >= 0;
                due("code " + code + " behind " + begun, x.fault(), had ? begun.length() + 1 : begun.length());
                x.letters('~');
                due("a second fault is not the first", x.fault(), had ? begun.length() + 1 : begun.length());
            }
        }
    }

    private static void faultOfAnyLength() {
        BY.of(16, "no LAW (of any length) has there");
        String longest = "C:12?" + repeated("d<1&", 11);
        for (int length = 0; length <= 49; length++) {
            EdgesFit x = new EdgesFit();
            Check.write(x, longest.substring(0, length));
            due("the first " + length + " of " + longest, x.fault(), length);
        }
        EdgesFit x = new EdgesFit();
        Check.write(x, longest + "!");
        due("50 letters that a longer law begins with", x.fault(), 50);
        due("they are none", x.law(0), STATE);
        EdgesFit y = new EdgesFit();
        Check.write(y, longest + "&");
        due("the fiftieth is a fault", y.fault(), 49);
        EdgesFit z = new EdgesFit();
        Check.write(z, "C:1?" + repeated("!", 46));
        due("46 of !", z.fault(), 50);
    }

    private static void lawOrNone() {
        BY.of(17, "STATE: it is none; FULL.");
        for (String[] next : NEXT) {
            String begun = next[0].replace(".", "");
            boolean law = next[0].endsWith(".");
            EdgesFit x = new EdgesFit();
            Check.write(x, begun);
            due("law of " + begun, x.law(1), law ? 1 : STATE);
            due("the page then", x.count(6), law ? 0 : begun.length());
            EdgesFit y = new EdgesFit();
            Check.write(y, begun + "~");
            due("law of " + begun + "~", y.law(1), STATE);
            EdgesFit z = new EdgesFit();
            Check.write(z, "~" + begun);
            due("law of ~" + begun, z.law(1), STATE);
            EdgesFit small = new EdgesFit();
            Check.write(small, begun.toLowerCase(java.util.Locale.ROOT));
            due("law of small letters of " + begun, small.law(1), STATE);
        }
        EdgesFit x = new EdgesFit();
        Check.write(x, "C:12 ");
        due("a space is no letter of a law", x.law(0), STATE);
    }

    private static void lawBehindOtherLetters() {
        BY.of(17, "STATE: it is none");
        for (String law : new String[] {"J:1", "C:12?d<1", "S:0?!e=1|k>9"}) {
            for (int times = 1; times <= 3; times++) {
                EdgesFit between = new EdgesFit();
                Check.write(between, law + repeated("x", times) + law);
                due("two laws with " + times + " of x between", between.law(0), STATE);
                due("their fault", between.fault(), law.length());
                for (String other : new String[] {"~", "1", ":", "?", "!", "d", "&", "J", law, law + "?"}) {
                    EdgesFit x = new EdgesFit();
                    String text = repeated(other, times) + law;
                    Check.write(x, text);
                    due("law of " + text, x.law(0), STATE);
                }
            }
        }
    }

    private static void longestLaws() {
        BY.of(17, "THE PAGE is read as a LAW of a HOLDER: how many there are then; THE PAGE is empty then.");
        String[] longest = {
            "C:12?" + repeated("!", 42) + "d=4", "C:1?" + repeated("!", 42) + "d=04",
            "C:12?" + repeated("d=4&", 10) + "!d=55", "C:12?" + repeated("d=5|", 10) + "!d=55",
            "C:12?" + repeated("d=04&", 9)};
        for (int i = 0; i < longest.length; i++) {
            String text = i == 4 ? longest[i].substring(0, 49) : longest[i];
            EdgesFit x = two(4, 0, 2);
            due("letters of " + text, text.length(), i == 4 ? 49 : 50);
            due("law of " + text, Check.tell(x, 0, text), 1);
            due("the page then", x.count(6), 0);
            due("it holds", x.crossing(0, 0, 0, 1, 0), i == 1 ? 1 : 12);
        }
        EdgesFit x = two(4, 0, 2);
        for (int i = 1; i <= 8; i++) {
            due("law " + i, Check.tell(x, 0, i + "C:12?" + repeated("d=4&", 10) + "!d=55"), STATE);
            x.blank();
            due("law " + i, Check.tell(x, 0, "C:1" + i + "?" + repeated("d=4&", 10) + "!d=55"), i);
            due("asks " + (10 + i), x.crossing(0, 0, 0, 1, 0), 10 + i);
        }
        for (int i = 7; i >= 1; i--) {
            due("strike", x.strike(0), i);
            due("asks " + (10 + i) + " again", x.crossing(0, 0, 0, 1, 0), 10 + i);
        }
    }

    private static void lawRefused() {
        BY.of(17, "UNKNOWN: holder; STATE: it is none; FULL.");
        EdgesFit x = new EdgesFit();
        due("holder 0, an empty page", x.law(0), STATE);
        due("holder 1, an empty page", x.law(1), STATE);
        for (int wrong : new int[] {-1, 2, Integer.MIN_VALUE, Integer.MAX_VALUE}) {
            due("holder " + wrong + ", an empty page", x.law(wrong), UNKNOWN);
        }
        for (int i = 1; i <= 8; i++) {
            Check.tell(x, 1, "J:" + i);
        }
        due("full, an empty page", x.law(1), STATE);
        Check.write(x, "J:9");
        due("full", x.law(1), FULL);
        due("the page stays", x.count(6), 3);
        due("holder 2, full", x.law(2), UNKNOWN);
        x.letters('x');
        due("full, no law", x.law(1), STATE);
        due("the page stays", x.count(6), 4);
    }

    private static void strikes() {
        BY.of(18, "The last LAW of a HOLDER is struck: how many are left. UNKNOWN; STATE: there is none.");
        EdgesFit x = two(3, 0, 2);
        for (int wrong : new int[] {-1, 2, Integer.MIN_VALUE, Integer.MAX_VALUE}) {
            due("holder " + wrong, x.strike(wrong), UNKNOWN);
        }
        due("holder 0 has none", x.strike(0), STATE);
        due("holder 1 has none", x.strike(1), STATE);
        for (int i = 1; i <= 8; i++) {
            Check.tell(x, 0, "C:" + i);
            Check.tell(x, 1, "S:" + 10 * i);
        }
        for (int left = 7; left >= 0; left--) {
            due("holder 0", x.strike(0), left);
            due("what the last one asks", x.crossing(0, 0, 0, 1, 0), left == 0 ? NONE : left);
            due("the other holder keeps all", x.count(3), 8);
        }
        due("holder 0 has none left", x.strike(0), STATE);
        due("holder 1 has eight", x.strike(1), 7);
        due("what its last one asks", x.crossing(1, 0, 0, 1, 0), 70);
    }

    private static void nothingStruckIsLeft() {
        BY.of(18, "The last LAW of a HOLDER is struck");
        String[] struck = {"B:5?d=9", "C:77?d=9&e=9&k=9", "C:77?d=9|e=9|k=9", "C:77?!d=3&!d=3&!d=3|d=9", "J:99?!!!d=3&d=9", "C:77?d=33&e=33"};
        String[] then = {"C:2", "C:2?d=3", "C:2?d=9|d=3", "C:2?d=3&e=0", "C:2?!d=9"};
        for (String gone : struck) {
            for (String law : then) {
                EdgesFit x = two(3, 0, 2);
                Check.tell(x, 0, gone);
                x.strike(0);
                due("none is left of " + gone, x.crossing(0, 0, 0, 1, 0), NONE);
                Check.tell(x, 0, law);
                due(law + " in place of " + gone, x.crossing(0, 0, 0, 1, 0), 2);
                due("its way", x.crossing(0, 0, 0, 1, 1), 3);
                x.strike(0);
                Check.tell(x, 0, "C:3?d=3&e=1");
                due("one that does not hold in place of " + law, x.crossing(0, 0, 0, 1, 0), NONE);
            }
        }
    }

    private static void distanceRefused() {
        BY.of(19, "UNKNOWN: a, b, or they are the same.");
        EdgesFit x = inARow();
        for (int land = 0; land < 6; land++) {
            due("the same: " + land, x.distance(land, land), UNKNOWN);
            for (int wrong : new int[] {-1, 6, Integer.MIN_VALUE, Integer.MAX_VALUE}) {
                due("a " + wrong, x.distance(wrong, land), UNKNOWN);
                due("b " + wrong, x.distance(land, wrong), UNKNOWN);
            }
        }
        due("-1 and -1", x.distance(-1, -1), UNKNOWN);
        due("0 and 5", x.distance(0, 5), 7 + 4);
        due("5 and 0", x.distance(5, 0), 7 + 4);
    }

    private static void beastRefused() {
        BY.of(20, "A BEAST: its number. OUTSIDE: lands (1 to 63), age; FULL.");
        EdgesFit x = new EdgesFit();
        for (int round = 0; round < 2; round++) {
            for (int lands : new int[] {0, -1, 64, 65, 127, 128, -64, Integer.MIN_VALUE, Integer.MAX_VALUE}) {
                due("lands " + lands, x.beast(lands, 0), OUTSIDE);
                due("lands " + lands + ", age 10", x.beast(lands, 10), OUTSIDE);
            }
            for (int age : new int[] {-1, 10, Integer.MIN_VALUE, Integer.MAX_VALUE}) {
                due("age " + age, x.beast(1, age), OUTSIDE);
            }
            due("beasts", x.count(4), 8 * round);
            for (int i = 0; i < 8; i++) {
                due("beast " + i, x.beast(i % 2 == 0 ? 1 : 63, i % 2 == 0 ? 0 : 9), round == 0 ? i : FULL);
            }
        }
    }

    private static void crossingAsked() {
        BY.of(21, "CROSSING a and b by a HOLDER for a BEAST: what = 0 COST (NONE: it cannot be), 1 the WAY (0 J, 1 B, 2 S, 3 C; NONE).");
        EdgesFit x = new EdgesFit();
        x.cell(0, 0);
        x.cell(1, 1);
        x.cell(2, 4);
        x.beast(3, 0);
        x.beast(56, 9);
        int[] none = {NONE, NONE};
        dueCrossing(x, 0, 0, 0, 1, none);
        Check.tell(x, 0, "J:4");
        Check.tell(x, 0, "B:6?d<4");
        Check.tell(x, 0, "S:8?e=9");
        Check.tell(x, 1, "C:9?k=3");
        dueCrossing(x, 0, 0, 0, 1, 4, 0);
        dueCrossing(x, 0, 0, 1, 0, 4, 0);
        dueCrossing(x, 0, 0, 1, 2, 6, 1);
        dueCrossing(x, 0, 0, 0, 2, none);
        dueCrossing(x, 0, 1, 0, 2, 8, 2);
        dueCrossing(x, 0, 1, 2, 1, 6, 1);
        dueCrossing(x, 0, 0, 3, 4, none);
        dueCrossing(x, 0, 1, 3, 4, 8, 2);
        dueCrossing(x, 1, 0, 0, 1, none);
        dueCrossing(x, 1, 1, 0, 1, 9, 3);
        dueCrossing(x, 1, 1, 4, 0, 9, 3);
    }

    private static void dueCrossing(EdgesFit x, int holder, int beast, int a, int b, int... want) {
        for (int what = 0; what < 2; what++) {
            String call = "crossing(" + holder + ", " + beast + ", " + a + ", " + b + ", " + what + ")";
            due(call, x.crossing(holder, beast, a, b, what), want[what]);
        }
    }

    private static void crossingRefused() {
        BY.of(21, "UNKNOWN: holder, beast, a, b, or they are the same; OUTSIDE.");
        EdgesFit x = new EdgesFit();
        due("no beast", x.crossing(0, 0, 0, 1, 0), UNKNOWN);
        for (int i = 0; i < 8; i++) {
            x.beast(3, i);
        }
        Check.tell(x, 1, "C:7");
        due("holder 1, beast 7, lands 5 and 4, what 1", x.crossing(1, 7, 5, 4, 1), 3);
        due("holder 0, beast 0, lands 0 and 1, what 0", x.crossing(0, 0, 0, 1, 0), NONE);
        due("beast 8", x.crossing(1, 8, 5, 4, 1), UNKNOWN);
        due("beast -1", x.crossing(1, -1, 5, 4, 1), UNKNOWN);
        for (int wrong : new int[] {-1, 8, Integer.MIN_VALUE, Integer.MAX_VALUE}) {
            due("holder " + wrong, x.crossing(wrong, 0, 0, 1, 2), UNKNOWN);
            due("beast " + wrong, x.crossing(0, wrong, 0, 1, 2), UNKNOWN);
            due("a " + wrong, x.crossing(0, 0, wrong, 1, 2), UNKNOWN);
            due("b " + wrong, x.crossing(0, 0, 0, wrong, 2), UNKNOWN);
            due("what " + wrong, x.crossing(0, 0, 0, 1, wrong), OUTSIDE);
        }
        due("holder 2", x.crossing(2, 0, 0, 1, 0), UNKNOWN);
        due("land 6", x.crossing(0, 0, 6, 1, 0), UNKNOWN);
        due("land 6 as the other one", x.crossing(0, 0, 0, 6, 0), UNKNOWN);
        due("the same, what 2", x.crossing(0, 0, 3, 3, 2), UNKNOWN);
        due("what 2", x.crossing(0, 0, 0, 1, 2), OUTSIDE);
    }

    private static void spreadAsked() {
        BY.of(22, "SPREAD by a HOLDER: what = 0 COST (NONE), 1 BY WAY of (bits; NONE, if they cannot be). UNKNOWN; OUTSIDE.");
        EdgesFit x = inARow();
        due("no beast", x.spread(0, 0, 0), UNKNOWN);
        x.beast(0b10001, 0);
        dueSpread(x, 0, NONE, NONE);
        Check.tell(x, 0, "B:3?d=2");
        dueSpread(x, 0, 12, 0b01110);
        due("the other holder: cost", x.spread(1, 0, 0), NONE);
        due("the other holder: by way of", x.spread(1, 0, 1), NONE);
        for (int wrong : new int[] {-1, 2, Integer.MIN_VALUE, Integer.MAX_VALUE}) {
            due("holder " + wrong, x.spread(wrong, 0, 2), UNKNOWN);
            due("beast " + wrong, x.spread(0, wrong, 2), UNKNOWN);
            due("what " + wrong, x.spread(0, 0, wrong), OUTSIDE);
        }
        due("beast 1", x.spread(0, 1, 0), UNKNOWN);
        for (int i = 1; i < 8; i++) {
            x.beast(1, 0);
        }
        due("beast 7", x.spread(0, 7, 0), 0);
        due("beast 8", x.spread(0, 8, 0), UNKNOWN);
    }

    private static void unlikeAsked() {
        BY.of(23, "PARTS (what = 0), MOST (1; NONE: no BEAST parts them). OUTSIDE.");
        EdgesFit x = new EdgesFit();
        due("no beast: parts", x.unlike(0), 0);
        due("no beast: most", x.unlike(1), NONE);
        Check.tell(x, 0, "C:1");
        due("no beast, though the laws differ", x.unlike(1), NONE);
        x.beast(32, 0);
        due("a beast of one land costs nothing by both", x.unlike(0), 0);
        due("it does not part them", x.unlike(1), NONE);
        x.beast(48, 0);
        due("one parts them", x.unlike(0), 1);
        due("beast 1", x.unlike(1), 1);
        for (int wrong : new int[] {-1, 2, Integer.MIN_VALUE, Integer.MAX_VALUE}) {
            due("what " + wrong, x.unlike(wrong), OUTSIDE);
        }
        for (int far : FAR) {
            due("what " + far, x.unlike(far), OUTSIDE);
        }
    }
}
