/** Promises 1 to 9: a new object, lands, marks. */
final class LandsTest {
    private static final Check CHECK = new Check();

    private static void due(String call, long got, long want) {
        CHECK.due(call, got, want);
    }

    public static void main(String[] args) {
        aNewObject();
        cells();
        runs();
        lands();
        marks();
        kinds();
        about();
        goingOn();
        drops();
        CHECK.end();
    }

    private static void aNewObject() {
        EdgesFit x = new EdgesFit();
        for (int what = 0; what <= 6; what++) {
            due("1 count(" + what + ")", x.count(what), 0);
        }
        for (int land = 0; land < 6; land++) {
            due("1 land(.., 0)", x.land(land, 0), 0);
            due("1 land(.., 1)", x.land(land, 1), EdgesFit.NONE);
        }
        due("1 speed", x.speed(2), 2);
        due("1 floor", x.floor(0), 0);
        due("1 cell(-1, 127)", x.cell(-1, 127), EdgesFit.NONE);
    }

    private static void cells() {
        EdgesFit x = new EdgesFit();
        due("2 cell of none", x.cell(3, 0), EdgesFit.NONE);
        due("2 cell of 3", x.cell(5, 0), 3);
        due("2 cell of 5", x.cell(5, 0), 5);
        due("2 cell to none", x.cell(EdgesFit.NONE, 0), 5);
        due("2 cell gone", x.cell(0, 0), EdgesFit.NONE);
        due("2 last cell", x.cell(0, 127), EdgesFit.NONE);
        due("2 count", x.count(0), 2);
        CHECK.refused(x, "2 cell(6, 1)", () -> x.cell(6, 1), EdgesFit.UNKNOWN);
        CHECK.refused(x, "2 cell(-2, 1)", () -> x.cell(-2, 1), EdgesFit.UNKNOWN);
        CHECK.refused(x, "2 cell(0, 128)", () -> x.cell(0, 128), EdgesFit.UNKNOWN);
        CHECK.refused(x, "2 cell(0, -1)", () -> x.cell(0, -1), EdgesFit.UNKNOWN);
        x.mark(0, 127, 0);
        CHECK.refused(x, "2 cell(1, 127) with a mark", () -> x.cell(1, 127), EdgesFit.STATE);
        CHECK.refused(x, "2 cell(0, 127) with a mark", () -> x.cell(0, 127), EdgesFit.STATE);
        CHECK.refused(x, "2 cell(-1, 127) with a mark", () -> x.cell(-1, 127), EdgesFit.STATE);
        CHECK.refused(x, "2 cell(6, 127) with a mark", () -> x.cell(6, 127), EdgesFit.UNKNOWN);
        x.drop();
        due("2 cell(1, 127) without it", x.cell(1, 127), 0);
    }

    private static void runs() {
        EdgesFit x = new EdgesFit();
        due("3 run around the ring", x.run(0, 0, 14, 4), 4);
        due("3 cell 14", x.cell(0, 14), 0);
        due("3 cell 1", x.cell(0, 1), 0);
        due("3 cell 2", x.cell(-1, 2), -1);
        due("3 cell 16", x.cell(-1, 16), -1);
        due("3 run over another land", x.run(1, 0, 13, 6), 2);
        due("3 the other land keeps its cells", x.land(0, 0), 4);
        due("3 run again", x.run(1, 0, 13, 6), 0);
        due("3 whole row", x.run(2, 7, 9, 16), 16);
        due("3 count", x.count(0), 22);
        CHECK.refused(x, "3 run(-1, 1, 1, 1)", () -> x.run(-1, 1, 1, 1), EdgesFit.UNKNOWN);
        CHECK.refused(x, "3 run(6, 1, 1, 1)", () -> x.run(6, 1, 1, 1), EdgesFit.UNKNOWN);
        CHECK.refused(x, "3 run(0, 8, 1, 1)", () -> x.run(0, 8, 1, 1), EdgesFit.UNKNOWN);
        CHECK.refused(x, "3 run(0, -1, 1, 1)", () -> x.run(0, -1, 1, 1), EdgesFit.UNKNOWN);
        CHECK.refused(x, "3 run(0, 1, 16, 1)", () -> x.run(0, 1, 16, 1), EdgesFit.UNKNOWN);
        CHECK.refused(x, "3 run(0, 1, -1, 17)", () -> x.run(0, 1, -1, 17), EdgesFit.UNKNOWN);
        CHECK.refused(x, "3 run(0, 1, 1, 0)", () -> x.run(0, 1, 1, 0), EdgesFit.OUTSIDE);
        CHECK.refused(x, "3 run(0, 1, 1, 17)", () -> x.run(0, 1, 1, 17), EdgesFit.OUTSIDE);
    }

    private static void lands() {
        EdgesFit x = new EdgesFit();
        x.run(4, 3, 15, 2);
        x.run(4, 5, 0, 1);
        x.run(0, 2, 0, 1);
        x.mark(0, 48, 1);
        x.mark(4, 48, 1);
        x.mark(5, 80, 1);
        x.mark(5, 32, 1);
        due("4 land(4, 0)", x.land(4, 0), 3);
        due("4 land(4, 1)", x.land(4, 1), 48);
        due("4 land(4, 2)", x.land(4, 2), 3);
        due("4 land(0, 2)", x.land(0, 2), 1);
        x.cell(3, 7);
        due("4 least cell in row 0", x.land(3, 1), 7);
        due("4 land(5, 0)", x.land(5, 0), 0);
        due("4 land(5, 1)", x.land(5, 1), EdgesFit.NONE);
        due("4 land(5, 2)", x.land(5, 2), 0);
        due("4 land(6, 0)", x.land(6, 0), EdgesFit.UNKNOWN);
        due("4 land(-1, 9)", x.land(-1, 9), EdgesFit.UNKNOWN);
        due("4 land(0, 3)", x.land(0, 3), EdgesFit.OUTSIDE);
        due("4 land(0, -1)", x.land(0, -1), EdgesFit.OUTSIDE);
    }

    private static void marks() {
        EdgesFit x = new EdgesFit();
        x.cell(2, 9);
        CHECK.refused(x, "5 mark(0, 8, 0)", () -> x.mark(0, 8, 0), EdgesFit.UNKNOWN);
        CHECK.refused(x, "5 mark(9, 128, 0)", () -> x.mark(9, 128, 0), EdgesFit.UNKNOWN);
        CHECK.refused(x, "5 mark(0, -1, 99)", () -> x.mark(0, -1, 99), EdgesFit.UNKNOWN);
        CHECK.refused(x, "5 mark(6, 9, 0)", () -> x.mark(6, 9, 0), EdgesFit.OUTSIDE);
        CHECK.refused(x, "5 mark(-1, 9, 0)", () -> x.mark(-1, 9, 0), EdgesFit.OUTSIDE);
        CHECK.refused(x, "5 mark(0, 9, 16)", () -> x.mark(0, 9, 16), EdgesFit.OUTSIDE);
        CHECK.refused(x, "5 mark(0, 9, -1)", () -> x.mark(0, 9, -1), EdgesFit.OUTSIDE);
        for (int i = 0; i < 40; i++) {
            due("5 mark " + i, x.mark(i % 6, 9, i % 16), i);
        }
        CHECK.refused(x, "5 mark 40", () -> x.mark(0, 9, 0), EdgesFit.FULL);
        CHECK.refused(x, "5 mark 40 of no kind", () -> x.mark(6, 9, 0), EdgesFit.OUTSIDE);
        CHECK.refused(x, "5 mark 40 of no land", () -> x.mark(0, 10, 0), EdgesFit.UNKNOWN);
        due("5 count", x.count(1), 40);
    }

    private static void kinds() {
        EdgesFit x = new EdgesFit();
        x.cell(2, 9);
        for (int kind = 0; kind < 6; kind++) {
            x.mark(kind, 9, 0);
        }
        for (int mark = 0; mark < 6; mark++) {
            for (int kind = 0; kind < 6; kind++) {
                boolean such = kind == 0 || kind == mark || mark == 5 && kind == 2;
                due("6 as(" + mark + ", " + kind + ")", x.as(mark, kind), such ? mark : EdgesFit.NONE);
            }
        }
        due("6 as(6, 0)", x.as(6, 0), EdgesFit.UNKNOWN);
        due("6 as(-1, 6)", x.as(-1, 6), EdgesFit.UNKNOWN);
        due("6 as(0, 6)", x.as(0, 6), EdgesFit.OUTSIDE);
        due("6 as(0, -1)", x.as(0, -1), EdgesFit.OUTSIDE);
    }

    private static void about() {
        EdgesFit x = new EdgesFit();
        x.run(1, 0, 0, 6);
        int[] weights = {1, 3, 4, 1, 0, 2};
        for (int kind = 0; kind < 6; kind++) {
            x.mark(kind, 5 - kind, 15 - kind);
        }
        for (int kind = 0; kind < 6; kind++) {
            due("7 kind", x.about(kind, 0), kind);
            due("7 cell", x.about(kind, 1), 5 - kind);
            due("7 n", x.about(kind, 2), 15 - kind);
            due("7 weight", x.about(kind, 3), weights[kind]);
        }
        due("7 about(6, 0)", x.about(6, 0), EdgesFit.UNKNOWN);
        due("7 about(-1, 4)", x.about(-1, 4), EdgesFit.UNKNOWN);
        due("7 about(0, 4)", x.about(0, 4), EdgesFit.OUTSIDE);
        due("7 about(0, -1)", x.about(0, -1), EdgesFit.OUTSIDE);
    }

    private static int goesOn(int kind, int n, int other, int m) {
        EdgesFit x = new EdgesFit();
        x.cell(0, 0);
        x.mark(kind, 0, n);
        x.mark(other, 0, m);
        return x.goesOn(0, 1);
    }

    private static void goingOn() {
        for (int n = 0; n < 16; n++) {
            for (int m = 0; m < 16; m++) {
                String of = " " + n + " into " + m;
                int same = n == m ? 1 : 0;
                due("8 mark" + of, goesOn(0, n, 0, m), same);
                due("8 bed" + of, goesOn(1, n, 1, m), n - m <= 1 && m - n <= 1 ? 1 : 0);
                due("8 fold" + of, goesOn(2, n, 2, m), same);
                due("8 scratch" + of, goesOn(3, n, 3, m), (n - m) % 4 == 0 ? 1 : 0);
                due("8 needle" + of, goesOn(4, n, 4, m), 0);
                due("8 moved" + of, goesOn(5, n, 5, m), same);
            }
        }
        for (int kind = 0; kind < 6; kind++) {
            for (int other = 0; other < 6; other++) {
                boolean on = kind == other && kind != 4;
                due("8 kind " + kind + " into " + other, goesOn(kind, 3, other, 3), on ? 1 : 0);
            }
        }
        EdgesFit x = new EdgesFit();
        due("8 goesOn(0, 0) of none", x.goesOn(0, 0), EdgesFit.UNKNOWN);
        x.cell(0, 0);
        x.mark(0, 0, 0);
        due("8 goesOn(0, 1)", x.goesOn(0, 1), EdgesFit.UNKNOWN);
        due("8 goesOn(1, 0)", x.goesOn(1, 0), EdgesFit.UNKNOWN);
        due("8 goesOn(-1, 0)", x.goesOn(-1, 0), EdgesFit.UNKNOWN);
        due("8 goesOn(0, -1)", x.goesOn(0, -1), EdgesFit.UNKNOWN);
        due("8 goesOn(0, 0)", x.goesOn(0, 0), 1);
    }

    private static void drops() {
        EdgesFit x = new EdgesFit();
        CHECK.refused(x, "9 drop of none", x::drop, EdgesFit.STATE);
        x.cell(0, 0);
        x.mark(0, 0, 0);
        x.mark(1, 0, 0);
        due("9 drop", x.drop(), 1);
        due("9 the first is left", x.about(0, 0), 0);
        due("9 the last is gone", x.about(1, 0), EdgesFit.UNKNOWN);
        due("9 its number comes again", x.mark(2, 0, 0), 1);
        due("9 drop", x.drop(), 1);
        due("9 drop", x.drop(), 0);
        due("9 drop", x.drop(), EdgesFit.STATE);
    }
}
