/** The sentences on the globe, lands and marks that name a boundary case: promises 1 to 9. */
final class LandSentencesTest {
    private static final int NONE = EdgesFit.NONE, UNKNOWN = EdgesFit.UNKNOWN, OUTSIDE = EdgesFit.OUTSIDE;
    private static final int STATE = EdgesFit.STATE, FULL = EdgesFit.FULL, LEAVES = -1000001, PUT_OUTSIDE = -1000003;
    private static final int[] FAR = {Integer.MIN_VALUE, Integer.MIN_VALUE + 1, Integer.MAX_VALUE - 1, Integer.MAX_VALUE};
    private static final Sentences BY = new Sentences();

    private static void due(String call, long got, long want) {
        BY.due(call, got, want);
    }

    public static void main(String[] args) {
        rowsAndColumns();
        oneLandAtMost();
        putByRows();
        putByColumns();
        markBounds();
        markIsAlsoAFold();
        weights();
        bedsByOne();
        scratchesByRest();
        othersBySame();
        marksGoWithCells();
        aNewObject();
        cellToAndFro();
        cellBounds();
        cellWithMarks();
        runBounds();
        runAroundTheRing();
        runAsFarAsOfNone();
        landAsked();
        markOnNoLand();
        markFull();
        castFails();
        aboutMarks();
        goesOnUnlikeKinds();
        dropToNone();
        BY.end(1, 9);
    }

    private static void rowsAndColumns() {
        BY.of(Sentences.TERMS, "THE GLOBE has ROWS 0 (the northmost) to 7, each a ring of COLUMNS 0 to 15: a CELL is 16 times ROW, and COLUMN.");
        for (int cell = 0; cell < 128; cell++) {
            EdgesFit x = new EdgesFit();
            due("run to cell " + cell, x.run(2, cell / 16, cell % 16, 1), 1);
            due("its cell", x.land(2, 1), cell);
            due("it alone", x.cell(NONE, cell), 2);
            due("none is left", x.count(0), 0);
        }
        EdgesFit y = new EdgesFit();
        due("row -1", y.run(2, -1, 0, 1), UNKNOWN);
        due("row 8", y.run(2, 8, 0, 1), UNKNOWN);
        due("column -1", y.run(2, 0, -1, 1), UNKNOWN);
        due("column 16", y.run(2, 0, 16, 1), UNKNOWN);
        for (int far : FAR) {
            due("row " + far, y.run(2, far, 0, 1), UNKNOWN);
            due("column " + far, y.run(2, 0, far, 1), UNKNOWN);
            due("cell " + far, y.cell(2, far), UNKNOWN);
        }
        y.cell(0, 3);
        due("row 0 is the northmost", y.put(1, 0, -1, 0, 0), LEAVES);
        y.cell(NONE, 3);
        y.cell(0, 7 * 16 + 3);
        due("row 7 is the southmost", y.put(1, 0, 1, 0, 0), LEAVES);
        due("further south is a greater row", y.put(1, 0, -7, 0, 0), 0);
    }

    private static void oneLandAtMost() {
        BY.of(Sentences.TERMS, "LANDS 0 to 5 have CELLS, each CELL one LAND at most (at HOME).");
        EdgesFit x = new EdgesFit();
        for (int land = 0; land < 6; land++) {
            due("cell of land " + land, x.cell(land, 77), land - 1);
            for (int other = 0; other < 6; other++) {
                due("cells of land " + other, x.land(other, 0), other == land ? 1 : 0);
            }
            due("all", x.count(0), 1);
        }
        for (int land : new int[] {-2, 6, Integer.MIN_VALUE, Integer.MAX_VALUE}) {
            due("cell of land " + land, x.cell(land, 77), UNKNOWN);
            due("run of land " + land, x.run(land, 0, 0, 1), UNKNOWN);
            due("land " + land, x.land(land, 0), UNKNOWN);
        }
        due("land -1 has no cells", x.land(NONE, 0), UNKNOWN);
        due("land -1 has no run", x.run(NONE, 0, 0, 1), UNKNOWN);
        EdgesFit full = new EdgesFit();
        for (int row = 0; row < 8; row++) {
            due("row " + row, full.run(5, row, row, 16), 16);
        }
        due("all 128 are of one land", full.land(5, 0), 128);
        due("all 128", full.count(0), 128);
        due("none is left for another one", full.run(0, 3, 0, 16), 0);
        due("but for one by one", full.cell(0, 0), 5);
        due("127 are left", full.land(5, 0), 127);
        due("all 128 still", full.count(0), 128);
    }

    private static void putByRows() {
        BY.of(Sentences.TERMS, "A LAND PUT by (u, v): each of its CELLS u ROWS further south (u from -7 to 7; none may leave ROWS 0 to 7)");
        for (int row = 0; row < 8; row++) {
            for (int u = -7; u <= 7; u++) {
                int to = row + u;
                boolean stays = to >= 0 && to <= 7;
                EdgesFit x = new EdgesFit();
                if (stays) {
                    x.cell(0, 16 * to + 6);
                }
                x.cell(1, 16 * row + 5);
                due("row " + row + " by " + u, x.put(0, 1, u, 1, 0), stays ? 1 : LEAVES);
            }
        }
        EdgesFit x = new EdgesFit();
        x.cell(1, 5);
        x.cell(1, 117);
        due("rows 0 and 7 by 0", x.put(0, 1, 0, 3, 0), 0);
        due("rows 0 and 7 by 1", x.put(0, 1, 1, 3, 0), LEAVES);
        due("rows 0 and 7 by -1", x.put(0, 1, -1, 3, 0), LEAVES);
        due("a land without cells by 7", x.put(1, 0, 7, 3, 0), 0);
        due("a land without cells by -7", x.put(1, 0, -7, 3, 0), 0);
        due("by 8", x.put(1, 0, 8, 3, 0), PUT_OUTSIDE);
        due("by -8", x.put(1, 0, -8, 3, 0), PUT_OUTSIDE);
        for (int far : FAR) {
            due("by " + far, x.put(1, 0, far, 3, 0), PUT_OUTSIDE);
        }
    }

    private static void putByColumns() {
        BY.of(Sentences.TERMS, "and v COLUMNS further east (0 to 15, around the ring).");
        for (int column = 0; column < 16; column++) {
            for (int v = 0; v < 16; v++) {
                for (int at = 0; at < 16; at++) {
                    EdgesFit x = new EdgesFit();
                    x.cell(0, 32 + at);
                    x.cell(1, 48 + column);
                    due(column + " by " + v + " over " + at, x.put(0, 1, -1, v, 0), (column + v) % 16 == at ? 1 : 0);
                }
            }
        }
        EdgesFit x = new EdgesFit();
        due("by 16", x.put(0, 1, 0, 16, 0), PUT_OUTSIDE);
        due("by -1", x.put(0, 1, 0, -1, 0), PUT_OUTSIDE);
        for (int far : FAR) {
            due("by " + far, x.put(0, 1, 0, far, 0), PUT_OUTSIDE);
        }
    }

    private static void markBounds() {
        BY.of(Sentences.TERMS, "MARKS (40 at most, numbered) of KINDS: 0 MARK, 1 BED, 2 FOLD, 3 SCRATCH, 4 NEEDLE, 5 MOVED, on a CELL of a LAND, with a number n (0 to 15).");
        for (int kind = 0; kind < 6; kind++) {
            EdgesFit x = new EdgesFit();
            x.cell(3, 127);
            for (int n = 0; n < 16; n++) {
                due("kind " + kind + ", n " + n, x.mark(kind, 127, n), n);
                due("its kind", x.about(n, 0), kind);
                due("its n", x.about(n, 2), n);
            }
            due("n 16", x.mark(kind, 127, 16), OUTSIDE);
            due("n -1", x.mark(kind, 127, -1), OUTSIDE);
            due("how many", x.count(1), 16);
        }
        EdgesFit x = new EdgesFit();
        x.cell(3, 127);
        due("kind -1", x.mark(-1, 127, 0), OUTSIDE);
        due("kind 6", x.mark(6, 127, 0), OUTSIDE);
        for (int far : FAR) {
            due("kind " + far, x.mark(far, 127, 0), OUTSIDE);
            due("n " + far, x.mark(0, 127, far), OUTSIDE);
        }
        for (int i = 0; i < 40; i++) {
            due("mark " + i, x.mark(4, 127, 15), i);
        }
        due("mark 40", x.mark(4, 127, 15), FULL);
    }

    private static EdgesFit oneOfEachKind(int n) {
        EdgesFit x = new EdgesFit();
        x.cell(2, 9);
        for (int kind = 0; kind < 6; kind++) {
            x.mark(kind, 9, n);
        }
        return x;
    }

    private static void markIsAlsoAFold() {
        BY.of(Sentences.TERMS, "All are MARKS; a MOVED is a FOLD, too.");
        EdgesFit x = oneOfEachKind(7);
        for (int mark = 0; mark < 6; mark++) {
            due("mark of kind " + mark + " as a mark", x.as(mark, 0), mark);
        }
        due("moved as a fold", x.as(5, 2), 5);
        due("moved as a moved", x.as(5, 5), 5);
        due("fold as a moved", x.as(2, 5), NONE);
        due("moved as a scratch", x.as(5, 3), NONE);
        due("fold as a bed", x.as(2, 1), NONE);
        due("mark as a fold", x.as(0, 2), NONE);
    }

    private static void weights() {
        BY.of(Sentences.TERMS, "WEIGHT: a MARK 1; a BED 3; a FOLD twice what a MARK has, and 2; a SCRATCH as a MARK; a NEEDLE 0; a MOVED half of what a FOLD has (rounded down).");
        int[] weights = {1, 3, 4, 1, 0, 2};
        for (int n = 0; n <= 15; n += 5) {
            EdgesFit x = oneOfEachKind(n);
            for (int kind = 0; kind < 6; kind++) {
                due("weight of kind " + kind + ", n " + n, x.about(kind, 3), weights[kind]);
            }
        }
    }

    private static int goesOn(int kind, int n, int other, int m) {
        EdgesFit x = new EdgesFit();
        x.cell(0, 0);
        x.mark(kind, 0, n);
        x.mark(other, 0, m);
        return x.goesOn(0, 1);
    }

    private static void bedsByOne() {
        BY.of(Sentences.TERMS, "a BED, if they are unlike by 1 at most");
        for (int n = 0; n < 16; n++) {
            for (int m = 0; m < 16; m++) {
                due(n + " into " + m, goesOn(1, n, 1, m), Math.abs(n - m) < 2 ? 1 : 0);
            }
        }
        due("15 into 0: n are no ring", goesOn(1, 15, 1, 0), 0);
    }

    private static void scratchesByRest() {
        BY.of(Sentences.TERMS, "a SCRATCH, if their rests by 4 are the same");
        for (int n = 0; n < 16; n++) {
            for (int m = 0; m < 16; m++) {
                due(n + " into " + m, goesOn(3, n, 3, m), (n & 3) == (m & 3) ? 1 : 0);
            }
        }
    }

    private static void othersBySame() {
        BY.of(Sentences.TERMS, "GOES ON into another one of its own KIND: a MARK, if n are the same");
        for (int kind = 0; kind < 6; kind++) {
            for (int other = 0; other < 6; other++) {
                due("kind " + kind + " into kind " + other, goesOn(kind, 8, other, 8), kind == other && kind != 4 ? 1 : 0);
            }
        }
        for (int n = 0; n < 16; n++) {
            for (int m = 0; m < 16; m++) {
                due("mark " + n + " into " + m, goesOn(0, n, 0, m), n == m ? 1 : 0);
            }
        }
        BY.of(Sentences.TERMS, "a FOLD, MOVED as a MARK");
        for (int n = 0; n < 16; n++) {
            for (int m = 0; m < 16; m++) {
                due("fold " + n + " into " + m, goesOn(2, n, 2, m), n == m ? 1 : 0);
                due("moved " + n + " into " + m, goesOn(5, n, 5, m), n == m ? 1 : 0);
            }
        }
        BY.of(Sentences.TERMS, "a NEEDLE never");
        for (int n = 0; n < 16; n++) {
            due("needle " + n + " into " + n, goesOn(4, n, 4, n), 0);
        }
    }

    private static void marksGoWithCells() {
        BY.of(Sentences.TERMS, "A MARK goes with its CELL.");
        EdgesFit x = new EdgesFit();
        x.cell(0, 32);
        x.cell(1, 127);
        x.mark(1, 32, 4);
        x.mark(1, 127, 4);
        x.mark(4, 127, 0);
        due("put beside the other one's, west", x.put(0, 1, -5, 0, 5), 3);
        due("put beside the other one's, east", x.put(0, 1, -5, 2, 5), 3);
        due("put over the other one's", x.put(0, 1, -5, 1, 5), 0);
        due("a needle goes, too, around the ring", x.pole(NONE, 1, 2, 0), 113);
        due("it is at home again", x.about(1, 1), 127);
        due("it is on its land", x.land(1, 2), 2);
    }

    private static void aNewObject() {
        BY.of(1, "No lands, no marks.");
        EdgesFit x = new EdgesFit();
        for (int cell = 0; cell < 128; cell++) {
            due("cell " + cell, x.cell(NONE, cell), NONE);
        }
        for (int land = 0; land < 6; land++) {
            due("cells of " + land, x.land(land, 0), 0);
            due("least cell of " + land, x.land(land, 1), NONE);
            due("marks on " + land, x.land(land, 2), 0);
            due("story of " + land, x.story(land, 0), 0);
        }
        for (int what = 0; what < 7; what++) {
            due("count(" + what + ")", x.count(what), 0);
        }
        due("as(0, 0)", x.as(0, 0), UNKNOWN);
        due("about(0, 0)", x.about(0, 0), UNKNOWN);
        due("goesOn(0, 0)", x.goesOn(0, 0), UNKNOWN);
        due("drop()", x.drop(), STATE);
        due("mark(0, 0, 0)", x.mark(0, 0, 0), UNKNOWN);
        due("fit(0, 1, 0)", x.fit(0, 1, 0), NONE);
        due("fit(0, 1, 2)", x.fit(0, 1, 2), 0);
        due("pole(-1, -1, 0, 0)", x.pole(NONE, NONE, 0, 0), NONE);
        due("spread(0, 0, 0)", x.spread(0, 0, 0), UNKNOWN);
        due("strike(0)", x.strike(0), STATE);
        due("strike(1)", x.strike(1), STATE);
        due("fault()", x.fault(), 0);
        due("blank()", x.blank(), 0);
    }

    private static void cellToAndFro() {
        BY.of(2, "A CELL becomes one of a LAND, or of none (NONE): of which it was (NONE).");
        EdgesFit x = new EdgesFit();
        int was = NONE;
        for (int from = NONE; from < 6; from++) {
            for (int to = NONE; to < 6; to++) {
                due("to " + from, x.cell(from, 64), was);
                due("from " + from + " to " + to, x.cell(to, 64), from);
                was = to;
            }
        }
        due("the last one", x.cell(NONE, 64), 5);
        due("none has it", x.count(0), 0);
    }

    private static void cellBounds() {
        BY.of(2, "UNKNOWN: land, cell (0 to 127)");
        EdgesFit x = new EdgesFit();
        due("cell 0", x.cell(4, 0), NONE);
        due("cell 127", x.cell(4, 127), NONE);
        due("cell -1", x.cell(4, -1), UNKNOWN);
        due("cell 128", x.cell(4, 128), UNKNOWN);
        due("land 0", x.cell(0, 9), NONE);
        due("land 5", x.cell(5, 9), 0);
        due("land -1 is none", x.cell(-1, 9), 5);
        due("land -2", x.cell(-2, 9), UNKNOWN);
        due("land 6", x.cell(6, 9), UNKNOWN);
        for (int far : FAR) {
            due("land " + far, x.cell(far, 9), UNKNOWN);
            due("cell " + far, x.cell(4, far), UNKNOWN);
        }
        due("two cells are of lands", x.count(0), 2);
    }

    private static void cellWithMarks() {
        BY.of(2, "STATE: MARKS are on it.");
        EdgesFit x = new EdgesFit();
        x.run(0, 0, 0, 3);
        for (int kind = 0; kind < 6; kind++) {
            x.mark(kind, 1, 0);
            for (int land = NONE; land < 6; land++) {
                due("one of kind " + kind + " to " + land, x.cell(land, 1), STATE);
            }
            due("a cell beside, west", x.cell(0, 0), 0);
            due("a cell beside, east", x.cell(0, 2), 0);
            x.drop();
        }
        x.mark(0, 1, 0);
        x.mark(0, 1, 0);
        x.drop();
        due("one of two is left", x.cell(2, 1), STATE);
        x.drop();
        due("none is left", x.cell(2, 1), 0);
        due("it is of land 2", x.land(2, 1), 1);
    }

    private static void runBounds() {
        BY.of(3, "from a COLUMN on so many (1 to 16)");
        for (int many = 1; many <= 16; many++) {
            EdgesFit x = new EdgesFit();
            due(many + " of row 0", x.run(0, 0, 0, many), many);
            due("they are so many", x.land(0, 0), many);
            due("the next row has none", x.run(1, 1, 0, 16), 16);
        }
        EdgesFit x = new EdgesFit();
        due("0", x.run(0, 0, 0, 0), OUTSIDE);
        due("17", x.run(0, 0, 0, 17), OUTSIDE);
        due("-1", x.run(0, 0, 0, -1), OUTSIDE);
        for (int far : FAR) {
            due("" + far, x.run(0, 0, 0, far), OUTSIDE);
        }
        due("no cell has gone", x.count(0), 0);
        BY.of(3, "UNKNOWN: land, row, column; OUTSIDE.");
        due("land 0, row 0, column 0", x.run(0, 0, 0, 1), 1);
        due("land 5, row 7, column 15", x.run(5, 7, 15, 1), 1);
        due("land 6", x.run(6, 7, 15, 17), UNKNOWN);
        due("row 8", x.run(5, 8, 15, 0), UNKNOWN);
        due("column 16", x.run(5, 7, 16, 0), UNKNOWN);
        due("many 0", x.run(5, 7, 15, 0), OUTSIDE);
    }

    private static void runAroundTheRing() {
        BY.of(3, "A run of CELLS of a ROW");
        for (int column = 0; column < 16; column++) {
            for (int many = 1; many <= 16; many++) {
                EdgesFit x = new EdgesFit();
                due("from " + column + " on " + many, x.run(3, 7, column, many), many);
                for (int i = 0; i < 16; i++) {
                    boolean given = (i - column + 16) % 16 < many;
                    due("from " + column + " on " + many + ", column " + i, x.cell(NONE, 112 + i), given ? 3 : NONE);
                }
                due("no other row", x.count(0), 0);
            }
        }
    }

    private static void runAsFarAsOfNone() {
        BY.of(3, "become ones of a LAND, as far as they are of none: how many did.");
        EdgesFit x = new EdgesFit();
        x.cell(1, 15);
        x.cell(2, 0);
        x.cell(4, 2);
        x.mark(0, 0, 0);
        due("over others, marks and own ones", x.run(2, 0, 14, 6), 3);
        due("own ones", x.land(2, 0), 4);
        due("another one's stays", x.land(1, 1), 15);
        due("a third one's stays", x.land(4, 1), 2);
        due("again: none", x.run(2, 0, 14, 6), 0);
        due("the rest of the row", x.run(5, 0, 3, 16), 10);
        due("the row is full", x.run(5, 0, 0, 16), 0);
        due("all", x.count(0), 16);
    }

    private static void landAsked() {
        BY.of(4, "Of a LAND: what = 0 how many CELLS, 1 its least CELL (NONE), 2 how many MARKS are on it.");
        EdgesFit x = new EdgesFit();
        due("no cells", x.land(5, 0), 0);
        due("no least one", x.land(5, 1), NONE);
        due("no marks", x.land(5, 2), 0);
        x.cell(5, 127);
        due("the last cell", x.land(5, 1), 127);
        x.cell(5, 16);
        due("a lesser one", x.land(5, 1), 16);
        x.cell(5, 0);
        due("the least of all", x.land(5, 1), 0);
        for (int i = 0; i < 40; i++) {
            due("marks", x.land(5, 2), i);
            x.mark(i % 6, i % 2 == 0 ? 16 : 127, 3);
        }
        due("all marks", x.land(5, 2), 40);
        due("of another land", x.land(4, 2), 0);
        x.cell(NONE, 0);
        due("the least is gone", x.land(5, 1), 16);
        due("two are left", x.land(5, 0), 2);
        BY.of(4, "UNKNOWN; OUTSIDE.");
        due("land -1, what -1", x.land(-1, -1), UNKNOWN);
        due("land 6, what 3", x.land(6, 3), UNKNOWN);
        due("land 0, what -1", x.land(0, -1), OUTSIDE);
        due("land 5, what 3", x.land(5, 3), OUTSIDE);
        for (int far : FAR) {
            due("land " + far, x.land(far, 0), UNKNOWN);
            due("what " + far, x.land(0, far), OUTSIDE);
        }
    }

    private static void markOnNoLand() {
        BY.of(5, "UNKNOWN: cell (also one of no LAND); OUTSIDE: kind, n; FULL.");
        EdgesFit x = new EdgesFit();
        x.cell(0, 0);
        x.cell(5, 127);
        due("cell 0", x.mark(0, 0, 0), 0);
        due("cell 127", x.mark(5, 127, 15), 1);
        due("cell 1 of no land", x.mark(0, 1, 0), UNKNOWN);
        due("cell -1", x.mark(0, -1, 0), UNKNOWN);
        due("cell 128", x.mark(0, 128, 0), UNKNOWN);
        for (int far : FAR) {
            due("cell " + far, x.mark(0, far, 0), UNKNOWN);
        }
        due("cell of no land, kind 6, n 16", x.mark(6, 126, 16), UNKNOWN);
        due("kind 6, n 16", x.mark(6, 127, 16), OUTSIDE);
        x.cell(2, 5);
        due("cell 5 of a land", x.mark(0, 5, 0), 2);
        x.drop();
        x.cell(NONE, 5);
        due("cell 5 of none again", x.mark(0, 5, 0), UNKNOWN);
    }

    private static void markFull() {
        BY.of(5, "A MARK: its number.");
        EdgesFit x = new EdgesFit();
        x.run(1, 4, 0, 16);
        for (int i = 0; i < 40; i++) {
            due("the next number", x.mark(i % 6, 64 + i % 16, i % 16), i);
        }
        due("the forty-first", x.mark(0, 64, 0), FULL);
        due("of no land", x.mark(0, 0, 0), UNKNOWN);
        due("of no kind", x.mark(6, 64, 0), OUTSIDE);
        due("n 16", x.mark(0, 64, 16), OUTSIDE);
        due("one is gone", x.drop(), 39);
        due("its number again", x.mark(0, 64, 1), 39);
        due("full again", x.mark(0, 64, 1), FULL);
        for (int i = 0; i < 39; i++) {
            due("kind of " + i, x.about(i, 0), i % 6);
            due("cell of " + i, x.about(i, 1), 64 + i % 16);
        }
        due("the new one's n", x.about(39, 2), 1);
    }

    private static void castFails() {
        BY.of(6, "A MARK taken as a KIND: its number; NONE: it is none such (the cast fails). UNKNOWN; OUTSIDE.");
        EdgesFit x = oneOfEachKind(15);
        for (int mark = 0; mark < 6; mark++) {
            for (int kind = 0; kind < 6; kind++) {
                boolean such = kind == 0 || kind == mark || mark == 5 && kind == 2;
                due("as(" + mark + ", " + kind + ")", x.as(mark, kind), such ? mark : NONE);
            }
            due("as(" + mark + ", 6)", x.as(mark, 6), OUTSIDE);
            due("as(" + mark + ", -1)", x.as(mark, -1), OUTSIDE);
        }
        due("as(6, 6)", x.as(6, 6), UNKNOWN);
        due("as(-1, -1)", x.as(-1, -1), UNKNOWN);
        for (int far : FAR) {
            due("as(" + far + ", 0)", x.as(far, 0), UNKNOWN);
            due("as(0, " + far + ")", x.as(0, far), OUTSIDE);
        }
        for (int i = 6; i < 40; i++) {
            x.mark(5, 9, 0);
        }
        due("as(39, 2)", x.as(39, 2), 39);
        due("as(40, 2)", x.as(40, 2), UNKNOWN);
        x.drop();
        due("as(39, 2) of a mark that is gone", x.as(39, 2), UNKNOWN);
    }

    private static void aboutMarks() {
        BY.of(7, "Of a MARK: what = 0 KIND, 1 CELL, 2 n, 3 WEIGHT. UNKNOWN; OUTSIDE.");
        EdgesFit x = new EdgesFit();
        due("no mark yet", x.about(0, 0), UNKNOWN);
        x.cell(0, 0);
        x.cell(1, 127);
        for (int i = 0; i < 40; i++) {
            x.mark(i % 6, i % 2 == 0 ? 0 : 127, 15 - i % 16);
        }
        int[] weights = {1, 3, 4, 1, 0, 2};
        for (int i = 0; i < 40; i++) {
            due("kind of " + i, x.about(i, 0), i % 6);
            due("cell of " + i, x.about(i, 1), i % 2 == 0 ? 0 : 127);
            due("n of " + i, x.about(i, 2), 15 - i % 16);
            due("weight of " + i, x.about(i, 3), weights[i % 6]);
        }
        due("about(40, 0)", x.about(40, 0), UNKNOWN);
        due("about(-1, 4)", x.about(-1, 4), UNKNOWN);
        due("about(0, -1)", x.about(0, -1), OUTSIDE);
        due("about(39, 4)", x.about(39, 4), OUTSIDE);
        for (int far : FAR) {
            due("about(" + far + ", 0)", x.about(far, 0), UNKNOWN);
            due("about(0, " + far + ")", x.about(0, far), OUTSIDE);
        }
        x.drop();
        due("about(39, 0)", x.about(39, 0), UNKNOWN);
        due("about(38, 0)", x.about(38, 0), 38 % 6);
    }

    private static void goesOnUnlikeKinds() {
        BY.of(8, "Whether a MARK GOES ON into another one: 1, 0 (0, too, if their KINDS are unlike). UNKNOWN: a, b.");
        for (int kind = 0; kind < 6; kind++) {
            for (int other = 0; other < 6; other++) {
                due(kind + " into " + other, goesOn(kind, 4, other, 4), kind == other && kind != 4 ? 1 : 0);
            }
        }
        EdgesFit x = oneOfEachKind(0);
        for (int wrong : new int[] {-1, 6, Integer.MIN_VALUE, Integer.MAX_VALUE}) {
            due("goesOn(" + wrong + ", 5)", x.goesOn(wrong, 5), UNKNOWN);
            due("goesOn(5, " + wrong + ")", x.goesOn(5, wrong), UNKNOWN);
            due("goesOn(" + wrong + ", " + wrong + ")", x.goesOn(wrong, wrong), UNKNOWN);
        }
        due("goesOn(0, 5)", x.goesOn(0, 5), 0);
        due("goesOn(5, 0)", x.goesOn(5, 0), 0);
    }

    private static void dropToNone() {
        BY.of(9, "The last MARK is gone: how many are left. STATE: there is none.");
        EdgesFit x = new EdgesFit();
        due("a new object", x.drop(), STATE);
        x.cell(0, 8);
        for (int i = 0; i < 40; i++) {
            x.mark(1, 8, i % 16);
        }
        for (int left = 39; left >= 0; left--) {
            due("drop", x.drop(), left);
            due("count", x.count(1), left);
            due("the last one", x.about(left - 1, 2), left == 0 ? UNKNOWN : (left - 1) % 16);
        }
        due("none is left", x.drop(), STATE);
        due("the next number is 0", x.mark(0, 8, 0), 0);
    }
}
