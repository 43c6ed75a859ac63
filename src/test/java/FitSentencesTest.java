/** The sentences on two lands that name a boundary case: promises 10 to 13. */
final class FitSentencesTest {
    private static final int NONE = EdgesFit.NONE, UNKNOWN = EdgesFit.UNKNOWN, OUTSIDE = EdgesFit.OUTSIDE, STATE = EdgesFit.STATE;
    private static final int LEAVES = -1000001, PUT_UNKNOWN = -1000002, PUT_OUTSIDE = -1000003;
    private static final int OVERLAP = 0, TOUCH = 1, GAP = 2, COST = 3, COUNTS = 4, ON = 5;
    private static final int[] FAR = {Integer.MIN_VALUE, Integer.MIN_VALUE + 1, Integer.MAX_VALUE - 1, Integer.MAX_VALUE};
    private static final Sentences BY = new Sentences();

    private static void due(String call, long got, long want) {
        BY.due(call, got, want);
    }

    public static void main(String[] args) {
        refusedFirst();
        overlaps();
        touchesAroundTheRing();
        touchesInARowOnly();
        gapsByLength();
        gapsOfCellsOfBoth();
        gapsTogether();
        costs();
        counting();
        oneLeavesAnotherFits();
        bestOfLikeOnes();
        shareNotGreater();
        onOverPairs();
        onByTheRing();
        besideNotBoth();
        besideAsGreat();
        putAsked();
        putLeaves();
        putRefused();
        fitAtTheEnds();
        fitOfNone();
        fitRefused();
        chanceInLowestTerms();
        chanceRefused();
        besideWhereOneLeaves();
        besideRefused();
        BY.end(10, 13);
    }

    /** Land 0 in row 2 and land 1 in row 5, by columns; to be put by (-3, 0). */
    private static EdgesFit rows(int a, int b) {
        EdgesFit x = new EdgesFit();
        for (int column = 0; column < 16; column++) {
            if ((a >> column & 1) == 1) {
                x.cell(0, 32 + column);
            }
            if ((b >> column & 1) == 1) {
                x.cell(1, 80 + column);
            }
        }
        return x;
    }

    private static int put(int a, int b, int what) {
        return rows(a, b).put(0, 1, -3, 0, what);
    }

    private static int bit(int column) {
        return 1 << (column & 15);
    }

    /** Row by row, a has the northern half and b the southern one. */
    private static EdgesFit halves() {
        EdgesFit x = new EdgesFit();
        for (int row = 0; row < 8; row++) {
            x.run(row / 4, row, 0, 16);
        }
        return x;
    }

    private static void refusedFirst() {
        BY.of(Sentences.TERMS, "---- fits (UNKNOWN: a, b, or they are the same; OUTSIDE: u, v).");
        EdgesFit x = halves();
        due("fit of land 3 and land 3", x.fit(3, 3, 0), UNKNOWN);
        due("put of land 3 and land 3, u 8", x.put(3, 3, 8, 0, 0), PUT_UNKNOWN);
        due("chance of land 0 and land 0, v 16", x.chance(0, 0, 0, 16, 0), UNKNOWN);
        due("beside of land 5 and land 5, v -1", x.beside(5, 5, 0, -1), UNKNOWN);
        due("put by u 8", x.put(0, 1, 8, 0, 0), PUT_OUTSIDE);
        due("chance by u -8", x.chance(0, 1, -8, 0, 0), OUTSIDE);
        due("beside by v 16", x.beside(0, 1, 0, 16), OUTSIDE);
    }

    private static void overlaps() {
        BY.of(Sentences.TERMS, "TWO LANDS a (at HOME) and b (PUT somewhere): OVERLAP: how many CELLS both have.");
        EdgesFit two = new EdgesFit();
        two.cell(0, 2 * 16 + 4);
        two.cell(1, 5 * 16 + 9);
        for (int u = -5; u <= 2; u++) {
            for (int v = 0; v < 16; v++) {
                due("b by (" + u + ", " + v + ")", two.put(0, 1, u, v, OVERLAP), u == -3 && v == 11 ? 1 : 0);
            }
        }
        due("the other one put", two.put(1, 0, 3, 5, OVERLAP), 1);
        due("none", put(0x00FF, 0xFF00, OVERLAP), 0);
        due("one, the first column", put(0x00FF, 0x0001, OVERLAP), 1);
        due("one, the last column", put(0xFF00, 0x8000, OVERLAP), 1);
        due("a whole row", put(0xFFFF, 0xFFFF, OVERLAP), 16);
        due("neither has any", put(0, 0, OVERLAP), 0);
        due("a has none", put(0, 0xFFFF, OVERLAP), 0);
        due("b has none", put(0xFFFF, 0, OVERLAP), 0);
        EdgesFit x = halves();
        for (int u = -4; u <= 0; u++) {
            due("four rows by " + u, x.put(0, 1, u, 9, OVERLAP), -16 * u);
        }
        due("four rows by -5", x.put(0, 1, -5, 9, OVERLAP), LEAVES);
        due("the other way by 4", x.put(1, 0, 4, 0, OVERLAP), 64);
    }

    private static void touchesAroundTheRing() {
        BY.of(Sentences.TERMS, "TOUCH: how many pairs of a CELL of a and one of b lie side by side in a ROW (also around the ring).");
        for (int a = 0; a < 16; a++) {
            for (int b = 0; b < 16; b++) {
                int apart = Math.abs(a - b);
                due(a + " and " + b, put(bit(a), bit(b), TOUCH), apart == 1 || apart == 15 ? 1 : 0);
            }
            due(a + " and both beside", put(bit(a), bit(a + 1) | bit(a - 1), TOUCH), 2);
            due("both beside " + a, put(bit(a + 1) | bit(a - 1), bit(a), TOUCH), 2);
        }
        due("a row of every other one", put(0x5555, 0xAAAA, TOUCH), 16);
        due("whole rows", put(0xFFFF, 0xFFFF, TOUCH), 32);
        due("a whole row and one", put(0xFFFF, 0x8000, TOUCH), 2);
        due("neither has any", put(0, 0, TOUCH), 0);
        due("the most", halves().put(0, 1, -4, 0, TOUCH), 128);
    }

    private static void touchesInARowOnly() {
        BY.of(Sentences.TERMS, "lie side by side in a ROW");
        EdgesFit x = new EdgesFit();
        x.cell(0, 47);
        x.cell(1, 48);
        due("cells 47 and 48", x.put(0, 1, 0, 0, TOUCH), 0);
        due("cells 47 and 32", x.put(0, 1, -1, 0, TOUCH), 1);
        due("cells 48 and 47", x.put(1, 0, 0, 0, TOUCH), 0);
        due("one below the other", x.put(0, 1, 0, 15, TOUCH), 0);
        due("askew", x.put(0, 1, 0, 14, TOUCH), 0);
        due("no gap, either", x.put(0, 1, 0, 2, GAP), 0);
        due("gap in the row", x.put(0, 1, -1, 2, GAP), 2);
    }

    private static void gapsByLength() {
        BY.of(Sentences.TERMS, "GAP: of each run of one to three CELLS of neither in a ROW, with a CELL of a at one end and one of b at the other");
        for (int from = 0; from < 16; from++) {
            for (int length = 0; length <= 14; length++) {
                int behind = 14 - length;
                int want = (length <= 3 ? length : 0) + (behind <= 3 ? behind : 0);
                due("a at " + from + ", " + length + " free", put(bit(from), bit(from + length + 1), GAP), want);
                due("b at " + from + ", " + length + " free", put(bit(from + length + 1), bit(from), GAP), want);
            }
            due("a at both ends", put(bit(from) | bit(from + 2), bit(from + 9), GAP), 0);
            due("b at both ends", put(bit(from + 9), bit(from) | bit(from + 2), GAP), 0);
        }
        due("a alone", put(0x0005, 0, GAP), 0);
        due("b alone", put(0, 0x0005, GAP), 0);
        due("whole rows", put(0xFFFF, 0xFFFF, GAP), 0);
        due("neither has any", put(0, 0, GAP), 0);
        EdgesFit x = rows(bit(0), bit(4));
        x.run(2, 2, 1, 3);
        due("cells of a third land are of neither", x.put(0, 1, -3, 0, GAP), 3);
    }

    private static void gapsOfCellsOfBoth() {
        BY.of(Sentences.TERMS, "(a CELL may be one of both)");
        for (int from = 0; from < 16; from++) {
            int near = bit(from);
            for (int length = 1; length <= 4; length++) {
                int end = bit(from + length + 1);
                int want = length <= 3 ? length : 0;
                String free = " at " + from + ", " + length + " free";
                due("both and a" + free, put(near | end, near, GAP), want);
                due("both and b" + free, put(near, near | end, GAP), want);
                due("a and both" + free, put(near | end, end, GAP), want);
                due("b and both" + free, put(end, near | end, GAP), want);
                due("both and both: once" + free, put(near | end, near | end, GAP), want);
            }
            due("one of both alone: 15 are free", put(near, near, GAP), 0);
        }
    }

    private static void gapsTogether() {
        BY.of(Sentences.TERMS, "its length; together.");
        due("1, 2 and 3 in a row", put(bit(0) | bit(5), bit(2) | bit(9), GAP), 1 + 2 + 3);
        due("eight of 1", put(0x1111, 0x4444, GAP), 8);
        due("four of 3", put(0x0101, 0x1010, GAP), 12);
        EdgesFit x = new EdgesFit();
        for (int row = 0; row < 4; row++) {
            x.cell(0, 16 * row);
            x.cell(1, 16 * row + 66 + row);
        }
        due("1, 2, 3 and none in four rows", x.put(0, 1, -4, 0, GAP), 1 + 2 + 3);
    }

    private static void costs() {
        BY.of(Sentences.TERMS, "COST: 3 times OVERLAP, and GAP, less TOUCH.");
        due("overlap alone", put(bit(3), bit(3), COST), 3);
        due("gap alone", put(bit(3), bit(7), COST), 3);
        due("touch alone", put(bit(0), bit(15), COST), -1);
        due("nothing", put(bit(0), bit(8), COST), 0);
        due("all three", put(bit(0) | bit(1) | bit(6), bit(1) | bit(2), COST), 3 * 1 + 3 - 2);
        due("the greatest overlap", halves().put(0, 1, -4, 0, COST), 3 * 64 - 128);
        due("every other one", put(0x5555, 0xAAAA, COST), -16);
    }

    private static void counting() {
        BY.of(Sentences.TERMS, "A PLACE (u, v) COUNTS, if no CELL leaves the ROWS, and TOUCH and OVERLAP together are 1 at least.");
        due("gap of 1 alone", put(bit(0), bit(2), COUNTS), 0);
        due("touch of 1", put(bit(0), bit(1), COUNTS), 1);
        due("touch of 1 around the ring", put(bit(0), bit(15), COUNTS), 1);
        due("overlap of 1", put(bit(0), bit(0), COUNTS), 1);
        due("neither has any", put(0, 0, COUNTS), 0);
        EdgesFit x = rows(bit(0), bit(0));
        x.cell(1, 112);
        due("one overlaps, none leaves", x.put(0, 1, -3, 0, COUNTS), 1);
        x.cell(1, 0);
        due("one overlaps, one leaves", x.put(0, 1, -3, 0, COUNTS), 0);
        due("no other place counts", x.fit(0, 1, 2), 0);
    }

    private static void oneLeavesAnotherFits() {
        BY.of(Sentences.TERMS, "COUNTS, if no CELL leaves the ROWS");
        for (int leaving = 0; leaving < 8; leaving += 7) {
            int u = leaving == 0 ? -1 : 1;
            EdgesFit x = new EdgesFit();
            x.cell(0, 64 + 16 * u + 3);
            x.cell(1, 64 + 3);
            x.mark(0, 64 + 16 * u + 3, 1);
            x.mark(0, 64 + 3, 1);
            due("before: overlap", x.put(0, 1, u, 0, OVERLAP), 1);
            due("before: chance", x.chance(0, 1, u, 0, 1), 1);
            due("before: on", x.put(0, 1, u, 1, ON), 1);
            due("before: beside", x.beside(0, 1, u, 0), 4);
            due("before: three count", x.fit(0, 1, 2), 3);
            x.cell(1, 16 * leaving + 9);
            for (int v = 0; v < 16; v++) {
                due("one leaves: overlap, v " + v, x.put(0, 1, u, v, OVERLAP), LEAVES);
                due("one leaves: on, v " + v, x.put(0, 1, u, v, ON), LEAVES);
                due("one leaves: counts, v " + v, x.put(0, 1, u, v, COUNTS), 0);
                due("one leaves: chance above, v " + v, x.chance(0, 1, u, v, 0), STATE);
                due("one leaves: chance below, v " + v, x.chance(0, 1, u, v, 1), STATE);
                due("one leaves: beside, v " + v, x.beside(0, 1, u, v), STATE);
            }
            due("so many as the other cell has", x.fit(0, 1, 2), 3);
            due("the best fit is that of the other cell", x.fit(0, 1, 0), 4 + u - leaving + 7);
            due("one leaves: it is not beside, either", x.beside(0, 1, 0, 1), 3);
        }
    }

    private static void bestOfLikeOnes() {
        BY.of(Sentences.TERMS, "THE BEST FIT: of all PLACES that COUNT the one of least COST; of like ones of least u, then least v.");
        EdgesFit x = rows(bit(4), bit(4));
        due("v 1 and v 15 alike: u", x.fit(0, 1, 0), 4);
        due("v 1 and v 15 alike: v", x.fit(0, 1, 1), 1);
        EdgesFit y = rows(bit(4), bit(3));
        due("v 0 and v 2 alike", y.fit(0, 1, 1), 0);
        y.cell(0, 7 * 16 + 4);
        due("u -3 and u 2 alike", y.fit(0, 1, 0), 4);
        y.cell(0, 7 * 16 + 2);
        due("u 2 is better: on both sides", y.fit(0, 1, 0), 9);
        due("its v", y.fit(0, 1, 1), 0);
        y.cell(0, 16 + 4);
        y.cell(0, 16 + 2);
        due("u -4 is as good as u 2", y.fit(0, 1, 0), 3);
        EdgesFit z = rows(bit(0), bit(0));
        z.cell(0, 32 + 2);
        due("one that overlaps would be nearer", z.fit(0, 1, 1), 1);
        EdgesFit w = rows(0xFFFF, 1);
        due("only such as overlap: u", w.fit(0, 1, 0), 4);
        due("only such as overlap: the least v", w.fit(0, 1, 1), 0);
    }

    private static void dueChance(EdgesFit x, int u, int v, int above, int below) {
        due("above of (" + u + ", " + v + ")", x.chance(0, 1, u, v, 0), above);
        due("below of (" + u + ", " + v + ")", x.chance(0, 1, u, v, 1), below);
    }

    private static void shareNotGreater() {
        BY.of(Sentences.TERMS, "CHANCE of a PLACE that COUNTS: of all that COUNT the share of those whose COST is not greater.");
        EdgesFit x = rows(bit(4), bit(4));
        due("three count", x.fit(0, 1, 2), 3);
        dueChance(x, -3, 1, 2, 3);
        dueChance(x, -3, 15, 2, 3);
        dueChance(x, -3, 0, 1, 1);
        EdgesFit one = rows(0xFFFF, 1);
        dueChance(one, -3, 0, 1, 1);
        dueChance(one, -3, 15, 1, 1);
    }

    private static void onOverPairs() {
        BY.of(Sentences.TERMS, "ON: of all pairs as for TOUCH of MARKS of one KIND on such two CELLS: WEIGHT (that of the one on a) of those that GO ON, less WEIGHT of those that do not.");
        int[] weights = {1, 3, 4, 1, 0, 2};
        for (int kind = 0; kind < 6; kind++) {
            for (int other = 0; other < 6; other++) {
                EdgesFit x = rows(bit(3), bit(4));
                x.mark(kind, 35, 5);
                x.mark(other, 84, 5);
                due(kind + " and " + other + " of one n", x.put(0, 1, -3, 0, ON), kind == other ? weights[kind] : 0);
                EdgesFit y = rows(bit(3), bit(4));
                y.mark(other, 84, 5);
                y.mark(kind, 35, 7);
                due(kind + " and " + other + " of unlike n", y.put(0, 1, -3, 0, ON), kind == other ? -weights[kind] : 0);
            }
        }
        EdgesFit most = rows(bit(3), bit(4));
        for (int i = 0; i < 40; i++) {
            most.mark(2, i % 2 == 0 ? 35 : 84, 9);
        }
        due("20 folds into 20", most.put(0, 1, -3, 0, ON), 4 * 400);
        EdgesFit least = rows(bit(3), bit(4));
        for (int i = 0; i < 40; i++) {
            least.mark(2, i % 2 == 0 ? 35 : 84, i % 2);
        }
        due("20 folds not into 20", least.put(0, 1, -3, 0, ON), -4 * 400);
        due("no mark", rows(bit(3), bit(4)).put(0, 1, -3, 0, ON), 0);
        EdgesFit own = rows(bit(3) | bit(4), bit(9));
        own.mark(0, 35, 1);
        own.mark(0, 36, 1);
        due("marks of a alone", own.put(0, 1, -3, 0, ON), 0);
        due("marks of b alone", own.put(1, 0, 3, 0, ON), 0);
        EdgesFit third = rows(bit(3), bit(4));
        third.cell(2, 32 + 5);
        third.mark(0, 32 + 5, 1);
        third.mark(0, 84, 1);
        due("a mark of a third land beside b", third.put(0, 1, -3, 0, ON), 0);
        third.mark(0, 35, 1);
        due("one of a, too", third.put(0, 1, -3, 0, ON), 1);
        EdgesFit home = new EdgesFit();
        home.cell(0, 35);
        home.run(1, 5, 4, 2);
        home.mark(0, 84, 1);
        due("b put beside its own mark at home", home.put(0, 1, 0, 1, ON), 0);
        due("a mark of b where b was", home.put(0, 1, -3, 1, ON), 0);
    }

    private static void onByTheRing() {
        BY.of(Sentences.TERMS, "ON: of all pairs as for TOUCH");
        for (int v = 0; v < 16; v++) {
            EdgesFit x = rows(bit(15), bit(0));
            x.mark(1, 47, 15);
            x.mark(1, 80, 14);
            due("column 15 and column " + v, x.put(0, 1, -3, v, ON), v == 0 || v == 14 ? 3 : 0);
            due("in the next row", x.put(0, 1, -2, v, ON), 0);
            due("in the row ahead", x.put(0, 1, -4, v, ON), 0);
        }
        EdgesFit both = rows(bit(0), bit(1) | bit(15));
        both.mark(1, 32, 8);
        both.mark(1, 81, 9);
        both.mark(1, 95, 6);
        due("on both sides: one goes on", both.put(0, 1, -3, 0, ON), 0);
        both.mark(1, 95, 7);
        due("on both sides: two do", both.put(0, 1, -3, 0, ON), 3);
        due("it leaves the rows", both.put(0, 1, 3, 0, ON), LEAVES);
        EdgesFit over = rows(bit(0) | bit(1), bit(0));
        over.mark(0, 32, 3);
        over.mark(0, 80, 3);
        due("marks on one cell are not side by side", over.put(0, 1, -3, 0, ON), 0);
        over.mark(0, 33, 4);
        due("where they overlap others are", over.put(0, 1, -3, 0, ON), -1);
    }

    private static void besideNotBoth() {
        BY.of(Sentences.TERMS, "BESIDE: how many of the PLACES that are unlike by 1 in u, or by 1 in v (around the ring), but not both, have ON as great at least.");
        EdgesFit x = rows(bit(8), bit(0));
        for (int v = 0; v < 16; v++) {
            due("all alike: four, v " + v, x.beside(0, 1, -3, v), 4);
        }
        x.mark(0, 40, 1);
        x.mark(0, 80, 2);
        // Worse, by -1, at v 7 and v 9 of u -3 alone.
        int[] at = {4, 4, 4, 4, 4, 4, 3, 4, 2, 4, 3, 4, 4, 4, 4, 4};
        int[] off = {4, 4, 4, 4, 4, 4, 4, 3, 4, 3, 4, 4, 4, 4, 4, 4};
        for (int v = 0; v < 16; v++) {
            due("u -3, v " + v, x.beside(0, 1, -3, v), at[v]);
            due("u -2, v " + v, x.beside(0, 1, -2, v), off[v]);
            due("u -4, v " + v, x.beside(0, 1, -4, v), off[v]);
            due("u -1, v " + v, x.beside(0, 1, -1, v), 4);
        }
        EdgesFit ring = rows(bit(0), bit(1));
        ring.mark(0, 32, 1);
        ring.mark(0, 81, 2);
        // Worse at v 0 and v 14.
        due("v 15 is beside v 0 and v 14", ring.beside(0, 1, -3, 15), 2);
        due("v 1 is beside v 0", ring.beside(0, 1, -3, 1), 3);
        due("v 13 is beside v 14", ring.beside(0, 1, -3, 13), 3);
        due("v 2 is not", ring.beside(0, 1, -3, 2), 4);
        EdgesFit start = rows(bit(0), bit(0));
        start.mark(0, 32, 1);
        start.mark(0, 80, 2);
        // Worse at v 1 and v 15.
        due("v 0 is beside v 15 and v 1", start.beside(0, 1, -3, 0), 2);
    }

    private static void besideAsGreat() {
        BY.of(Sentences.TERMS, "have ON as great at least.");
        EdgesFit x = rows(bit(4) | bit(5), bit(0));
        x.mark(0, 36, 3);
        x.mark(0, 37, 3);
        x.mark(0, 80, 3);
        // ON is 1 at v 3, 4, 5 and 6.
        due("v 3: one as great", x.beside(0, 1, -3, 3), 1);
        due("v 4: two as great", x.beside(0, 1, -3, 4), 2);
        due("v 2: a greater one, three alike", x.beside(0, 1, -3, 2), 4);
        x.mark(0, 36, 3);
        // ON is 2 at v 3 and 5.
        due("v 3: none as great", x.beside(0, 1, -3, 3), 0);
        due("v 4: two greater ones", x.beside(0, 1, -3, 4), 2);
        due("v 6: a greater one", x.beside(0, 1, -3, 6), 1);
    }

    private static void putAsked() {
        BY.of(10, "Of b PUT by (u, v): what = 0 OVERLAP, 1 TOUCH, 2 GAP, 3 COST, 4 whether it COUNTS (1, 0), 5 ON");
        EdgesFit x = rows(bit(0) | bit(1) | bit(2) | bit(3) | bit(8), bit(2) | bit(3) | bit(4) | bit(10) | bit(13));
        x.mark(1, 32 + 3, 6);
        x.mark(1, 80 + 4, 7);
        x.mark(2, 32 + 1, 6);
        x.mark(2, 80 + 2, 6);
        // Both have 2 and 3. Side by side: 1 and 2, 2 and 3, 3 and 2, 3 and 4. Free between both: 5 to 7, 9, 14 and 15.
        int[] want = {2, 4, 6, 8, 1, 7};
        for (int what = 0; what <= 5; what++) {
            due("what " + what, x.put(0, 1, -3, 0, what), want[what]);
        }
        // Put by six columns b has 8, 9, 10, 0 and 3: of both are 0, 3 and 8; side by side 1 and 0, 2 and 3, 8 and 9; the
        // free ones, 4 to 7 and 11 to 15, are too many.
        int[] elsewhere = {3, 3, 0, 6, 1, 0};
        for (int what = 0; what <= 5; what++) {
            due("by six columns, what " + what, x.put(0, 1, -3, 6, what), elsewhere[what]);
        }
        for (int what = 0; what <= 5; what++) {
            due("in another row, what " + what, x.put(0, 1, -2, 0, what), 0);
        }
    }

    private static void putLeaves() {
        BY.of(10, "-1000001, if a CELL leaves the ROWS (what 4: 0)");
        EdgesFit x = new EdgesFit();
        x.cell(0, 48);
        x.run(1, 1, 0, 1);
        x.run(1, 5, 0, 1);
        for (int u = -7; u <= 7; u++) {
            boolean leaves = u < -1 || u > 2;
            for (int what = 0; what <= 5; what++) {
                due("u " + u + ", what " + what, x.put(0, 1, u, 8, what), leaves && what != COUNTS ? LEAVES : 0);
            }
        }
        due("the last to the south that counts", x.put(0, 1, 2, 0, COUNTS), 1);
        due("the next one", x.put(0, 1, 3, 0, COUNTS), 0);
        x.run(1, 4, 0, 1);
        due("the last to the north that counts", x.put(0, 1, -1, 0, COUNTS), 1);
        due("the next one", x.put(0, 1, -2, 0, COUNTS), 0);
    }

    private static void putRefused() {
        BY.of(10, "-1000002: UNKNOWN, -1000003: OUTSIDE (also what).");
        EdgesFit x = rows(bit(0), bit(0));
        for (int wrong : new int[] {-1, 6, Integer.MIN_VALUE, Integer.MAX_VALUE}) {
            due("a " + wrong, x.put(wrong, 1, 0, 0, 0), PUT_UNKNOWN);
            due("b " + wrong, x.put(0, wrong, 0, 0, 0), PUT_UNKNOWN);
            due("what " + wrong, x.put(0, 1, 0, 0, wrong), PUT_OUTSIDE);
            due("what " + wrong + ", and it leaves the rows", x.put(0, 1, 7, 0, wrong), PUT_OUTSIDE);
            due("b and what " + wrong, x.put(0, wrong, 0, 0, wrong), PUT_UNKNOWN);
        }
        for (int land = 0; land < 6; land++) {
            due("the same: " + land, x.put(land, land, 0, 0, 4), PUT_UNKNOWN);
        }
        due("u 8, what 4", x.put(0, 1, 8, 0, 4), PUT_OUTSIDE);
        due("u -8, what 4", x.put(0, 1, -8, 0, 4), PUT_OUTSIDE);
        due("v 16, what 4, and it leaves the rows", x.put(0, 1, 7, 16, 4), PUT_OUTSIDE);
        due("what 5 is the last", x.put(0, 1, 0, 0, 5), 0);
        due("what 6", x.put(0, 1, 0, 0, 6), PUT_OUTSIDE);
    }

    private static void fitAtTheEnds() {
        BY.of(11, "THE BEST FIT: what = 0 u and 7 (0 to 14), 1 v, 2 how many PLACES COUNT");
        for (int from = 0; from < 8; from++) {
            for (int to = 0; to < 8; to++) {
                EdgesFit x = new EdgesFit();
                x.cell(0, 16 * to + 15);
                x.cell(1, 16 * from);
                due("u from row " + from + " to row " + to, x.fit(0, 1, 0), to - from + 7);
                due("v from column 0 to column 15", x.fit(0, 1, 1), 0);
                due("three count", x.fit(0, 1, 2), 3);
            }
        }
        due("v 15", rows(0xFFFF & ~bit(15), bit(0)).fit(0, 1, 1), 15);
        EdgesFit all = new EdgesFit();
        for (int row = 0; row < 8; row++) {
            all.run(0, row, 0, row == 7 ? 15 : 16);
        }
        all.cell(1, 127);
        due("all of eight rows count", all.fit(0, 1, 2), 128);
        due("at home both sides touch: u", all.fit(0, 1, 0), 7);
        due("at home both sides touch: v", all.fit(0, 1, 1), 0);
    }

    private static void fitOfNone() {
        BY.of(11, "NONE: none does (what 0, 1).");
        EdgesFit x = rows(bit(0), 0);
        for (int what = 0; what < 3; what++) {
            int want = what == 2 ? 0 : NONE;
            due("b has no cells, what " + what, x.fit(0, 1, what), want);
            due("a has no cells, what " + what, x.fit(1, 0, what), want);
            due("neither has, what " + what, x.fit(4, 5, what), want);
        }
        EdgesFit y = new EdgesFit();
        y.cell(0, 64);
        y.cell(1, 0);
        y.cell(1, 112);
        due("none can come to its row: u", y.fit(0, 1, 0), NONE);
        due("none can come to its row: v", y.fit(0, 1, 1), NONE);
        due("none can come to its row: none", y.fit(0, 1, 2), 0);
        due("but the other way", y.fit(1, 0, 2), 6);
    }

    private static void fitRefused() {
        BY.of(11, "UNKNOWN; OUTSIDE.");
        EdgesFit x = rows(bit(0), bit(0));
        for (int wrong : new int[] {-1, 6, Integer.MIN_VALUE, Integer.MAX_VALUE}) {
            due("a " + wrong, x.fit(wrong, 1, 3), UNKNOWN);
            due("b " + wrong, x.fit(0, wrong, -1), UNKNOWN);
        }
        for (int land = 0; land < 6; land++) {
            due("the same: " + land, x.fit(land, land, 3), UNKNOWN);
        }
        due("what 3", x.fit(0, 1, 3), OUTSIDE);
        due("what -1", x.fit(0, 1, -1), OUTSIDE);
        for (int far : FAR) {
            due("what " + far, x.fit(0, 1, far), OUTSIDE);
        }
    }

    private static void chanceInLowestTerms() {
        BY.of(12, "CHANCE of a PLACE, in lowest terms: part 0 above, 1 below.");
        EdgesFit x = new EdgesFit();
        for (int row = 0; row < 8; row++) {
            x.run(0, row, 0, row == 7 ? 15 : 16);
        }
        x.cell(1, 127);
        // COST is -2 at home, 2 at the two places beside it, and 1 at the other 125 places.
        dueChance(x, 0, 0, 1, 128);
        dueChance(x, -1, 0, 63, 64);
        dueChance(x, -7, 15, 63, 64);
        dueChance(x, 0, 2, 63, 64);
        dueChance(x, 0, 1, 1, 1);
        dueChance(x, 0, 15, 1, 1);
        EdgesFit y = rows(bit(0) | bit(2) | bit(4) | bit(10), bit(0));
        // COST is -2 at two places, 0 and more at eight others.
        dueChance(y, -3, 1, 1, 5);
        dueChance(y, -3, 3, 1, 5);
        EdgesFit far = new EdgesFit();
        far.cell(0, 0);
        far.cell(1, 112);
        dueChance(far, -7, 1, 2, 3);
        dueChance(far, -7, 0, 1, 1);
        due("the other way by 7", far.chance(1, 0, 7, 15, 0), 2);
    }

    private static void chanceRefused() {
        BY.of(12, "UNKNOWN; OUTSIDE (also part); STATE: it does not COUNT.");
        EdgesFit x = rows(bit(0), bit(0));
        due("touch counts", x.chance(0, 1, -3, 1, 0), 2);
        due("a gap of 1 does not", x.chance(0, 1, -3, 2, 0), STATE);
        due("another row does not", x.chance(0, 1, -2, 1, 0), STATE);
        due("it leaves the rows, south", x.chance(0, 1, 3, 1, 0), STATE);
        due("it leaves the rows, north", x.chance(0, 1, -6, 1, 0), STATE);
        due("b has no cells", x.chance(0, 2, 0, 0, 0), STATE);
        due("a has no cells", x.chance(2, 0, 0, 0, 1), STATE);
        due("part 2 where it does not count", x.chance(0, 1, -3, 2, 2), OUTSIDE);
        due("part -1 where it leaves the rows", x.chance(0, 1, 3, 2, -1), OUTSIDE);
        due("u 8, part 2", x.chance(0, 1, 8, 2, 2), OUTSIDE);
        due("the same, u 8", x.chance(1, 1, 8, 2, 2), UNKNOWN);
        for (int far : FAR) {
            due("u " + far, x.chance(0, 1, far, 1, 0), OUTSIDE);
            due("v " + far, x.chance(0, 1, -3, far, 0), OUTSIDE);
            due("part " + far, x.chance(0, 1, -3, 1, far), OUTSIDE);
            due("a " + far, x.chance(far, 1, -3, 1, 0), UNKNOWN);
            due("b " + far, x.chance(0, far, -3, 1, 0), UNKNOWN);
        }
    }

    private static void besideWhereOneLeaves() {
        BY.of(13, "STATE: a CELL leaves the ROWS (PLACES beside where one does are none).");
        for (int row = 0; row < 8; row++) {
            EdgesFit x = new EdgesFit();
            x.cell(1, 16 * row + 4);
            for (int u = -7; u <= 7; u++) {
                int to = row + u;
                int want = to < 0 || to > 7 ? STATE : to == 0 || to == 7 ? 3 : 4;
                due("row " + row + " by " + u, x.beside(0, 1, u, 6), want);
            }
        }
        EdgesFit tall = new EdgesFit();
        tall.cell(1, 4);
        tall.cell(1, 116);
        due("rows 0 and 7 by 0: two beside", tall.beside(0, 1, 0, 0), 2);
        due("rows 0 and 7 by 1", tall.beside(0, 1, 1, 0), STATE);
        EdgesFit none = new EdgesFit();
        due("no cell leaves, but u 8 is no place", none.beside(0, 1, 7, 0), 3);
        due("no cell leaves, but u -8 is no place", none.beside(0, 1, -7, 15), 3);
        due("no cell leaves", none.beside(0, 1, 6, 0), 4);
    }

    private static void besideRefused() {
        BY.of(13, "BESIDE. UNKNOWN; OUTSIDE; STATE");
        EdgesFit x = rows(bit(0), bit(0));
        due("u -5 and v 15 are the last", x.beside(0, 1, -5, 15), 3);
        due("u 2 and v 0 are the last", x.beside(0, 1, 2, 0), 3);
        due("u -6", x.beside(0, 1, -6, 15), STATE);
        due("u 3", x.beside(0, 1, 3, 0), STATE);
        due("u 3, v 16", x.beside(0, 1, 3, 16), OUTSIDE);
        due("u 3, v -1", x.beside(0, 1, 3, -1), OUTSIDE);
        due("u 8", x.beside(0, 1, 8, 0), OUTSIDE);
        due("u -8", x.beside(0, 1, -8, 0), OUTSIDE);
        due("land 6, u 8", x.beside(6, 1, 8, 0), UNKNOWN);
        due("land -1, u 3", x.beside(0, -1, 3, 0), UNKNOWN);
        due("the same, u 3", x.beside(1, 1, 3, 0), UNKNOWN);
        for (int far : FAR) {
            due("u " + far, x.beside(0, 1, far, 0), OUTSIDE);
            due("v " + far, x.beside(0, 1, 0, far), OUTSIDE);
            due("a " + far, x.beside(far, 1, 0, 0), UNKNOWN);
            due("b " + far, x.beside(0, far, 0, 0), UNKNOWN);
        }
    }
}
