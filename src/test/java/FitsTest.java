/** Promises 10 to 13: how two lands fit. */
final class FitsTest {
    private static final int LEAVES = -1000001, NOT_KNOWN = -1000002, NOT_TOLD = -1000003;
    private static final Check CHECK = new Check();

    private static void due(String call, long got, long want) {
        CHECK.due(call, got, want);
    }

    public static void main(String[] args) {
        overlapAndTouch();
        gaps();
        costAndCounts();
        on();
        refusalsOfPut();
        bestFit();
        chance();
        beside();
        CHECK.end();
    }

    /** Land 0 has columns of row 2, land 1 has columns of row 5. */
    private static EdgesFit rows(String home, String moved) {
        EdgesFit x = new EdgesFit();
        for (int column = 0; column < home.length(); column++) {
            if (home.charAt(column) == 'a') {
                x.cell(0, 32 + column);
            }
            if (moved.charAt(column) == 'b') {
                x.cell(1, 80 + column);
            }
        }
        return x;
    }

    private static int put(String home, String moved, int what) {
        return rows(home, moved).put(0, 1, -3, 0, what);
    }

    private static void overlapAndTouch() {
        due("10 overlap", put("aaaa............", "..bbb...........", 0), 2);
        due("10 touch where they overlap", put("aaaa............", "..bbb...........", 1), 4);
        due("10 touch in the ring", put("a...............", "...............b", 1), 1);
        due("10 touch in the ring", put("...............a", "b...............", 1), 1);
        due("10 touch on both sides", put("a...............", ".b.............b", 1), 2);
        due("10 the same cell does not touch", put("a...............", "b...............", 1), 0);
        due("10 whole rows overlap", put("aaaaaaaaaaaaaaaa", "bbbbbbbbbbbbbbbb", 0), 16);
        due("10 whole rows touch", put("aaaaaaaaaaaaaaaa", "bbbbbbbbbbbbbbbb", 1), 32);
        EdgesFit x = rows("a...............", ".b..............");
        due("10 other rows do not touch", x.put(0, 1, -2, 0, 1), 0);
        due("10 nor overlap", x.put(0, 1, -2, 15, 0), 0);
        due("10 v goes east around the ring", x.put(0, 1, -3, 14, 1), 1);
        due("10 v goes east around the ring", x.put(0, 1, -3, 15, 0), 1);
        due("10 u goes south", x.put(1, 0, 3, 1, 0), 1);
        x.run(5, 7, 0, 16);
        x.cell(4, 0);
        due("10 a cell of row 0 to row 7", x.put(5, 4, 7, 3, 0), 1);
        due("10 a cell of row 0 to no row", x.put(5, 4, -1, 3, 0), LEAVES);
        due("10 nobody has gone", x.land(1, 1), 81);
    }

    private static void gaps() {
        due("10 gap of 1", put("a...............", "..b.............", 2), 1);
        due("10 gap of 2", put("a...............", "...b............", 2), 2);
        due("10 gap of 3", put("...a............", ".......b........", 2), 3);
        due("10 gap of 4", put("...a............", "........b.......", 2), 0);
        due("10 gap in the ring", put("..a.............", "..............b.", 2), 3);
        due("10 gap the other way", put("......a.........", "...b............", 2), 2);
        due("10 two gaps", put("...a............", ".b....b.........", 2), 3);
        due("10 gap between a and a", put("a..a............", "........bbbb....", 2), 0);
        due("10 gap between both and a", put("a..a............", "b...............", 2), 2);
        due("10 gap between both and both", put("a.a.............", "b.b.............", 2), 1);
        due("10 no gap of touching ones", put("a...............", ".b..............", 2), 0);
        EdgesFit x = rows("a...............", "..b.............");
        x.cell(2, 33);
        due("10 a third land fills no gap", x.put(0, 1, -3, 0, 2), 1);
    }

    private static void costAndCounts() {
        due("10 cost", put("aaaa............", "..bbb...........", 3), 2);
        due("10 cost of touch", put("a...............", ".b.............b", 3), -2);
        due("10 cost of gap", put("a...............", "...b............", 3), 2);
        due("10 a gap does not count", put("a...............", "...b............", 4), 0);
        due("10 touch counts", put("a...............", ".b..............", 4), 1);
        due("10 overlap counts", put("a...............", "b...............", 4), 1);
        due("10 a land without cells does not count", put("a...............", "................", 4), 0);
        EdgesFit x = rows("a...............", "b...............");
        x.cell(1, 112);
        due("10 a cell leaves the rows", x.put(0, 1, 1, 0, 0), LEAVES);
        due("10 a cell leaves the rows", x.put(0, 1, 1, 0, 3), LEAVES);
        due("10 a cell leaves the rows", x.put(0, 1, 1, 0, 5), LEAVES);
        due("10 a cell leaves the rows: it does not count", x.put(0, 1, 1, 0, 4), 0);
        due("10 a cell leaves the rows north", x.put(0, 1, -6, 0, 1), LEAVES);
        due("10 none leaves them", x.put(0, 1, -5, 0, 0), 1);
    }

    private static void on() {
        EdgesFit x = rows("aa..............", "..bb............");
        x.mark(1, 33, 5);
        x.mark(1, 82, 6);
        due("10 a bed goes on", x.put(0, 1, -3, 0, 5), 3);
        x.mark(1, 82, 7);
        due("10 one does, one does not", x.put(0, 1, -3, 0, 5), 0);
        x.mark(3, 82, 5);
        due("10 of unlike kinds: nothing", x.put(0, 1, -3, 0, 5), 0);
        x.mark(3, 33, 6);
        due("10 a scratch does not", x.put(0, 1, -3, 0, 5), -1);
        x.mark(2, 33, 1);
        x.mark(5, 82, 1);
        due("10 a fold and a moved are of unlike kinds", x.put(0, 1, -3, 0, 5), -1);
        x.mark(5, 33, 1);
        due("10 a moved goes on", x.put(0, 1, -3, 0, 5), 1);
        x.mark(2, 82, 2);
        due("10 a fold does not", x.put(0, 1, -3, 0, 5), -3);
        x.mark(4, 33, 2);
        x.mark(4, 82, 2);
        due("10 a needle weighs nothing", x.put(0, 1, -3, 0, 5), -3);
        due("10 elsewhere nothing touches", x.put(0, 1, -3, 1, 5), 0);
        due("10 in another row nothing touches", x.put(0, 1, -2, 0, 5), 0);
        due("10 around the ring", x.put(0, 1, -3, 14, 5), -3);
        due("10 the other way", x.put(1, 0, 3, 0, 5), -3);
        x.mark(0, 82, 9);
        x.mark(0, 33, 9);
        due("10 a mark more", x.put(0, 1, -3, 0, 5), -2);
        x.drop();
        due("10 a mark that is gone does not go on", x.put(0, 1, -3, 0, 5), -3);
    }

    private static void refusalsOfPut() {
        EdgesFit x = rows("a...............", "b...............");
        due("10 put(6, 1, ..)", x.put(6, 1, 0, 0, 0), NOT_KNOWN);
        due("10 put(-1, 1, ..)", x.put(-1, 1, 0, 0, 0), NOT_KNOWN);
        due("10 put(0, 6, ..)", x.put(0, 6, 0, 0, 0), NOT_KNOWN);
        due("10 put(0, -1, ..)", x.put(0, -1, 0, 0, 0), NOT_KNOWN);
        due("10 put(1, 1, 8, ..)", x.put(1, 1, 8, 0, 0), NOT_KNOWN);
        due("10 put(0, 1, 8, ..)", x.put(0, 1, 8, 0, 4), NOT_TOLD);
        due("10 put(0, 1, -8, ..)", x.put(0, 1, -8, 0, 0), NOT_TOLD);
        due("10 put(0, 1, 7, 16, ..)", x.put(0, 1, 7, 16, 0), NOT_TOLD);
        due("10 put(0, 1, 7, -1, ..)", x.put(0, 1, 7, -1, 0), NOT_TOLD);
        due("10 put(0, 1, 7, 0, 6)", x.put(0, 1, 7, 0, 6), NOT_TOLD);
        due("10 put(0, 1, 7, 0, -1)", x.put(0, 1, 7, 0, -1), NOT_TOLD);
    }

    private static void bestFit() {
        EdgesFit x = rows("aa..aa..........", "bb..............");
        due("11 u, of like ones the least", x.fit(0, 1, 0), 4);
        due("11 v: both sides touch", x.fit(0, 1, 1), 2);
        due("11 how many count", x.fit(0, 1, 2), 9);
        EdgesFit y = new EdgesFit();
        y.cell(0, 0);
        y.cell(0, 112);
        y.cell(1, 48);
        due("11 of like ones the least u", y.fit(0, 1, 0), 4);
        due("11 of like ones the least v", y.fit(0, 1, 1), 1);
        due("11 how many count", y.fit(0, 1, 2), 6);
        y.cell(1, 63);
        due("11 one that overlaps is dearer than one that touches", y.fit(0, 1, 1), 2);
        EdgesFit z = rows("a..a............", "b...b...........");
        due("11 a gap costs: v", z.fit(0, 1, 1), 4);
        EdgesFit far = new EdgesFit();
        far.cell(0, 112);
        far.cell(1, 0);
        due("11 from the northmost row to the southmost", far.fit(0, 1, 0), 14);
        due("11 from the southmost row to the northmost", far.fit(1, 0, 0), 0);
        due("11 none counts", x.fit(0, 2, 0), EdgesFit.NONE);
        due("11 none counts", x.fit(2, 0, 1), EdgesFit.NONE);
        due("11 none counts", x.fit(0, 2, 2), 0);
        due("11 fit(6, 0, 0)", x.fit(6, 0, 0), EdgesFit.UNKNOWN);
        due("11 fit(0, -1, 3)", x.fit(0, -1, 3), EdgesFit.UNKNOWN);
        due("11 fit(1, 1, 0)", x.fit(1, 1, 0), EdgesFit.UNKNOWN);
        due("11 fit(0, 1, 3)", x.fit(0, 1, 3), EdgesFit.OUTSIDE);
        due("11 fit(0, 1, -1)", x.fit(0, 1, -1), EdgesFit.OUTSIDE);
    }

    private static void chance() {
        EdgesFit x = rows("aa..aa..........", "bb..............");
        due("12 the best", x.chance(0, 1, -3, 2, 0), 1);
        due("12 of all", x.chance(0, 1, -3, 2, 1), 9);
        due("12 in lowest terms: 3 of 9", x.chance(0, 1, -3, 14, 0), 1);
        due("12 in lowest terms: 3 of 9", x.chance(0, 1, -3, 6, 1), 3);
        due("12 5 of 9", x.chance(0, 1, -3, 15, 0), 5);
        due("12 5 of 9", x.chance(0, 1, -3, 5, 1), 9);
        due("12 the worst: all", x.chance(0, 1, -3, 0, 0), 1);
        due("12 the worst: all", x.chance(0, 1, -3, 0, 1), 1);
        EdgesFit even = rows("a..............", "b..............");
        even.cell(0, 34);
        due("12 one cell between two", even.chance(0, 1, -3, 1, 1), 5);
        even.cell(0, 36);
        even.cell(0, 42);
        due("12 2 of 10", even.chance(0, 1, -3, 3, 0), 1);
        due("12 2 of 10", even.chance(0, 1, -3, 1, 1), 5);
        due("12 does not count", x.chance(0, 1, -3, 10, 0), EdgesFit.STATE);
        due("12 leaves the rows", x.chance(0, 1, 3, 0, 0), EdgesFit.STATE);
        due("12 chance(0, 0, ..)", x.chance(0, 0, 9, 0, 0), EdgesFit.UNKNOWN);
        due("12 chance(0, 6, ..)", x.chance(0, 6, 0, 0, 2), EdgesFit.UNKNOWN);
        due("12 chance(-1, 1, ..)", x.chance(-1, 1, 0, 0, 0), EdgesFit.UNKNOWN);
        due("12 u", x.chance(0, 1, 8, 0, 0), EdgesFit.OUTSIDE);
        due("12 u", x.chance(0, 1, -8, 0, 0), EdgesFit.OUTSIDE);
        due("12 v", x.chance(0, 1, 3, 16, 0), EdgesFit.OUTSIDE);
        due("12 v", x.chance(0, 1, 3, -1, 0), EdgesFit.OUTSIDE);
        due("12 part", x.chance(0, 1, 3, 0, 2), EdgesFit.OUTSIDE);
        due("12 part", x.chance(0, 1, 3, 0, -1), EdgesFit.OUTSIDE);
    }

    private static void beside() {
        EdgesFit x = rows("a...............", "b...............");
        x.mark(0, 32, 1);
        x.mark(0, 80, 1);
        due("13 a better one is beside none as good", x.beside(0, 1, -3, 1), 0);
        due("13 beside the best", x.beside(0, 1, -3, 0), 4);
        due("13 around the ring", x.beside(0, 1, -3, 15), 0);
        due("13 the others are as good", x.beside(0, 1, -1, 5), 4);
        due("13 places where a cell leaves the rows are none", x.beside(0, 1, 2, 5), 3);
        due("13 places where a cell leaves the rows are none", x.beside(0, 1, -5, 5), 3);
        x.mark(0, 80, 2);
        x.mark(0, 80, 3);
        due("13 a worse one", x.beside(0, 1, -3, 1), 4);
        due("13 beside two worse ones", x.beside(0, 1, -3, 0), 2);
        due("13 beside one worse one", x.beside(0, 1, -3, 2), 3);
        due("13 u from -7 to 7", x.beside(0, 2, 7, 0), 3);
        due("13 u from -7 to 7", x.beside(0, 2, -7, 0), 3);
        x.drop();
        x.drop();
        due("13 a row off the best", x.beside(0, 1, -2, 1), 4);
        due("13 a row off the best", x.beside(0, 1, -4, 1), 4);
        EdgesFit y = rows("a.a.............", "b...............");
        y.mark(0, 80, 1);
        y.mark(0, 32, 2);
        due("13 one south of the worst", y.beside(0, 1, -2, 1), 3);
        due("13 one north of the worst", y.beside(0, 1, -4, 1), 3);
        due("13 two rows from the worst", y.beside(0, 1, -1, 1), 4);
        due("10 the first mark is on b", y.put(0, 1, -3, 1, 5), -1);
        due("13 leaves the rows", x.beside(0, 1, 3, 0), EdgesFit.STATE);
        due("13 leaves the rows", x.beside(0, 1, -6, 0), EdgesFit.STATE);
        due("13 beside(6, 1, ..)", x.beside(6, 1, 0, 0), EdgesFit.UNKNOWN);
        due("13 beside(0, -1, ..)", x.beside(0, -1, 8, 0), EdgesFit.UNKNOWN);
        due("13 beside(1, 1, ..)", x.beside(1, 1, 0, 0), EdgesFit.UNKNOWN);
        due("13 u", x.beside(0, 1, 8, 0), EdgesFit.OUTSIDE);
        due("13 u", x.beside(0, 1, -8, 0), EdgesFit.OUTSIDE);
        due("13 v", x.beside(0, 1, 3, 16), EdgesFit.OUTSIDE);
        due("13 v", x.beside(0, 1, 3, -1), EdgesFit.OUTSIDE);
    }
}
