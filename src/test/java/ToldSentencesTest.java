/** The sentences on what is told that name a boundary case: promises 32 and 33; and an object's 512 calls. */
final class ToldSentencesTest {
    private static final int NONE = EdgesFit.NONE, UNKNOWN = EdgesFit.UNKNOWN, OUTSIDE = EdgesFit.OUTSIDE, STATE = EdgesFit.STATE, FULL = EdgesFit.FULL;
    private static final Sentences BY = new Sentences();

    private static void due(String call, long got, long want) {
        BY.due(call, got, want);
    }

    public static void main(String[] args) {
        allCallsOfAnObject();
        countsFromNoneToFull();
        countRefused();
        digestOfNothing();
        digestOfAll();
        digestWraps();
        digestOfEachNumber();
        digestInOrder();
        refusals();
        BY.end(32, 33);
    }

    private static void allCallsOfAnObject() {
        BY.of(Sentences.TERMS, "An object is used for at most 512 calls after it has been made");
        EdgesFit x = new EdgesFit();
        x.run(0, 0, 0, 16);
        for (int call = 2; call <= 511; call++) {
            due("call " + call, call % 2 == 0 ? x.mark(1, 15, 4) : x.drop(), 0);
        }
        due("call 512", x.mark(5, 15, 15), 0);
        EdgesFit y = new EdgesFit();
        for (int call = 1; call <= 512; call++) {
            int round = call % 4;
            long answer = round == 1 ? y.letters(Check.packed("C:12?k>0")) : round == 2 ? y.law(0) : round == 3 ? y.strike(0) : y.fault();
            due("call " + call, answer, round == 1 ? 8 : round == 2 ? 1 : 0);
        }
        EdgesFit z = new EdgesFit();
        z.cell(0, 0);
        z.cell(1, 127);
        long digest = z.digest();
        for (int call = 4; call <= 512; call++) {
            due("digest as call " + call, z.digest(), digest);
        }
    }

    /** Every kind of thing, as many as there can be, in fewer than 200 calls; both objects get the same calls. */
    private static void fill(EdgesFit x, Plain plain) {
        for (int row = 0; row < 8; row++) {
            due("run", x.run(row % 6, row, 3, 16), plain.run(row % 6, row, 3, 16));
        }
        for (int i = 0; i < 40; i++) {
            due("mark", x.mark(i % 6, 127 - 3 * i, i % 16), plain.mark(i % 6, 127 - 3 * i, i % 16));
        }
        for (int i = 0; i < 16; i++) {
            long w = Check.packed("BSC".charAt(i % 3) + ":" + (10 + i) + "?d>" + i % 3);
            due("letters", x.letters(w), plain.letters(w));
            due("law", x.law(i % 2), plain.law(i % 2));
        }
        for (int i = 0; i < 8; i++) {
            due("beast", x.beast(63 - 7 * i, 9 - i), plain.beast(63 - 7 * i, 9 - i));
        }
        for (int i = 0; i < 12; i++) {
            due("claim", x.claim(i % 6, (i + 2) % 6, i % 10, i % 3 == 0, 99 - i), plain.claim(i % 6, (i + 2) % 6, i % 10, i % 3 == 0, 99 - i));
        }
        for (int i = 0; i < 50; i++) {
            due("letters", x.letters(126 - i), plain.letters(126 - i));
        }
        due("speed", x.speed(7), plain.speed(7));
        due("floor", x.floor(16777215), plain.floor(16777215));
    }

    private static void countsFromNoneToFull() {
        BY.of(32, "How many: 0 CELLS of LANDS, 1 MARKS, 2 LAWS of HOLDER 0, 3 of HOLDER 1, 4 BEASTS, 5 CLAIMS, 6 letters of THE PAGE.");
        EdgesFit x = new EdgesFit();
        for (int what = 0; what <= 6; what++) {
            due("none: count(" + what + ")", x.count(what), 0);
        }
        fill(x, new Plain());
        int[] most = {128, 40, 8, 8, 8, 12, 50};
        for (int what = 0; what <= 6; what++) {
            due("the most: count(" + what + ")", x.count(what), most[what]);
        }
        due("one mark more", x.mark(0, 0, 0), FULL);
        due("one law more", x.law(0), STATE);
        due("one beast more", x.beast(1, 0), FULL);
        due("one claim more", x.claim(0, 1, 0, true, 1), FULL);
        due("one letter more", x.letters('a'), FULL);
        due("one cell more", x.run(0, 0, 0, 16), 0);
        for (int what = 0; what <= 6; what++) {
            due("the most still: count(" + what + ")", x.count(what), most[what]);
        }
        x.drop();
        x.strike(0);
        x.blank();
        x.cell(NONE, 127 - 3 * 39);
        int[] less = {127, 39, 7, 8, 8, 12, 0};
        for (int what = 0; what <= 6; what++) {
            due("less: count(" + what + ")", x.count(what), less[what]);
        }
    }

    private static void countRefused() {
        BY.of(32, "OUTSIDE.");
        EdgesFit x = new EdgesFit();
        for (int wrong : new int[] {-1, 7, Integer.MIN_VALUE, Integer.MIN_VALUE + 1, Integer.MAX_VALUE - 1, Integer.MAX_VALUE}) {
            due("count(" + wrong + ")", x.count(wrong), OUTSIDE);
        }
        due("count(0)", x.count(0), 0);
        due("count(6)", x.count(6), 0);
    }

    private static long with(long h, long... numbers) {
        for (long number : numbers) {
            h = 31 * h + number;
        }
        return h;
    }

    private static long cells(int land, int at) {
        long h = 313;
        for (int cell = 0; cell < 128; cell++) {
            h = with(h, cell == at ? land : NONE);
        }
        return h;
    }

    private static long distances(long h) {
        for (int pair = 0; pair < 15; pair++) {
            h = with(h, 99);
        }
        return h;
    }

    private static void digestOfNothing() {
        BY.of(33, "of each CELL its LAND (NONE)");
        long rest = distances(cells(NONE, NONE));
        due("a new object", new EdgesFit().digest(), with(rest, 2, 0, 12, 0, 0, 0, 0, 0, 0, 0));
        for (int cell = 0; cell < 128; cell++) {
            for (int land = 0; land < 6; land++) {
                EdgesFit x = new EdgesFit();
                x.cell(land, cell);
                due("cell " + cell + " of " + land, x.digest(), with(distances(cells(land, cell)), 2, 0, 12, 1, 0, 0, 0, 0, 0, 0));
            }
        }
    }

    private static void digestOfAll() {
        BY.of(33, "what count() tells for 0 to 6.");
        EdgesFit x = new EdgesFit();
        Plain plain = new Plain();
        fill(x, plain);
        due("of as much as there can be", x.digest(), plain.digest());
        x.blank();
        plain.blank();
        due("without letters", x.digest(), plain.digest());
        for (int i = 0; i < 40; i++) {
            x.drop();
            plain.drop();
        }
        due("without marks", x.digest(), plain.digest());
        for (int i = 0; i < 8; i++) {
            x.strike(i % 2);
            plain.strike(i % 2);
            due("without laws", x.digest(), plain.digest());
        }
    }

    private static void digestWraps() {
        BY.of(33, "h is 313, then for each of these numbers, in order, 31 times h, and it (as longs, wrapping)");
        java.math.BigInteger h = java.math.BigInteger.valueOf(313);
        int[] told = new int[128 + 15 + 10];
        java.util.Arrays.fill(told, 0, 128, NONE);
        java.util.Arrays.fill(told, 128, 143, 99);
        told[143] = 2;
        told[145] = 12;
        for (int number : told) {
            h = h.multiply(java.math.BigInteger.valueOf(31)).add(java.math.BigInteger.valueOf(number));
        }
        due("a new object", new EdgesFit().digest(), h.longValue());
    }

    private static void digestInOrder() {
        BY.of(33, "of each CELL its LAND (NONE); of each MARK KIND, CELL, n, WEIGHT; of each two LANDS (the lesser first) DISTANCE; of each BEAST its LANDS, AGE, COST of SPREAD by both HOLDERS; SPEED");
        EdgesFit x = new EdgesFit();
        int[] at = {0, 1, 19, 40, 78, 127};
        long h = 313;
        for (int cell = 0, land = 0; cell < 128; cell++) {
            boolean next = land < 6 && at[land] == cell;
            h = with(h, next ? land : NONE);
            land += next ? 1 : 0;
        }
        for (int land = 0; land < 6; land++) {
            x.cell(land, at[land]);
        }
        x.mark(2, 40, 9);
        x.mark(1, 127, 3);
        x.mark(4, 0, 15);
        h = with(h, 2, 40, 9, 4, 1, 127, 3, 3, 4, 0, 15, 0);
        // Of 0 and 1, 0 and 2, and so on; 1 and 2, and so on.
        h = with(h, 1, 4, 10, 6, 8, 3, 9, 7, 9, 6, 8, 10, 8, 12, 4);
        Check.tell(x, 0, "S:10?d<5");
        Check.tell(x, 1, "C:20?d>5");
        x.beast(7, 3);
        x.beast(8, 1);
        x.beast(48, 8);
        h = with(h, 7, 3, 20, 60, 8, 1, 0, 0, 48, 8, 10, 40);
        h = with(h, 2, 0, 12, 6, 3, 1, 1, 3, 0, 0);
        due("six lands, three marks, three beasts", x.digest(), h);
    }

    private static void refusals() {
        BY.of(Sentences.TERMS, "Refusals, of several the first as told by each call: UNKNOWN (a number names nothing), OUTSIDE (it is not as told), STATE (as told), FULL; they change nothing.");
        EdgesFit x = new EdgesFit();
        fill(x, new Plain());
        long all = x.digest();
        due("no such cell, no such kind, and full", x.mark(6, 128, 0), UNKNOWN);
        due("no such kind, and full", x.mark(6, 0, 0), OUTSIDE);
        due("full", x.mark(5, 0, 0), FULL);
        due("no such holder, no law, and full", x.law(2), UNKNOWN);
        due("no law, and full", x.law(1), STATE);
        due("no such lands, and full", x.beast(64, 0), OUTSIDE);
        due("the same, no such age, and full", x.claim(3, 3, 10, true, 100), UNKNOWN);
        due("no such weight, and full", x.claim(3, 4, 9, true, 100), OUTSIDE);
        due("such a claim, and full", x.claim(3, 4, 9, true, 99), FULL);
        due("a byte too great, and full", x.letters(127), OUTSIDE);
        due("a letter, and full", x.letters(126), FULL);
        due("no such cell", x.cell(6, 1), UNKNOWN);
        due("marks are on it", x.cell(0, 127), STATE);
        due("they change nothing", x.digest(), all);
        x.blank();
        Check.write(x, "J:1");
        long law = x.digest();
        due("a law, and full", x.law(0), FULL);
        due("the page is as it was", x.digest(), law);
    }

    /** What a number of the digest adds, told by how many numbers come behind it. */
    private static long weighed(long number, int behind) {
        long h = number;
        for (int i = 0; i < behind; i++) {
            h *= 31;
        }
        return h;
    }

    private static void digestOfEachNumber() {
        BY.of(33, "SPEED; of each CLAIM LAND, the other one, AGE, 1 or 0, WEIGHT; the FLOOR, THE RIDGE; letters of THE PAGE; what count() tells for 0 to 6.");
        long none = new EdgesFit().digest();
        for (int speed = 0; speed <= 7; speed++) {
            EdgesFit x = new EdgesFit();
            x.speed(speed);
            due("speed " + speed, x.digest() - none, weighed(speed - 2, 9));
        }
        for (int floor : new int[] {0, 1, 16777215}) {
            EdgesFit x = new EdgesFit();
            x.floor(floor);
            due("floor " + floor, x.digest() - none, weighed(floor, 8));
        }
        long start = distances(cells(NONE, NONE));
        for (int together = 0; together < 2; together++) {
            EdgesFit x = new EdgesFit();
            x.claim(5, 0, 9, together == 1, 99);
            due("claim", x.digest(), with(start, 2, 5, 0, 9, together, 99, 0, 12, 0, 0, 0, 0, 0, 1, 0));
        }
        for (int code : new int[] {1, 65, 126}) {
            EdgesFit x = new EdgesFit();
            x.letters(code);
            due("letter " + code, x.digest(), with(start, 2, 0, 12, code, 0, 0, 0, 0, 0, 0, 1));
        }
        EdgesFit beast = new EdgesFit();
        beast.beast(63, 9);
        due("a beast that cannot spread", beast.digest(), with(start, 63, 9, NONE, NONE, 2, 0, 12, 0, 0, 0, 0, 1, 0, 0));
        Check.tell(beast, 1, "C:99");
        due("a beast that can by holder 1", beast.digest(), with(start, 63, 9, NONE, 495, 2, 0, 12, 0, 0, 0, 1, 1, 0, 0));
        EdgesFit mark = new EdgesFit();
        mark.cell(5, 127);
        mark.mark(5, 127, 15);
        due("a mark", mark.digest(), with(distances(with(cells(5, 127), 5, 127, 15, 2)), 2, 0, 12, 1, 1, 0, 0, 0, 0, 0));
    }
}
