/** The sentences on poles and floors that name a boundary case: promises 28 to 31. */
final class PoleSentencesTest {
    private static final int NONE = EdgesFit.NONE, UNKNOWN = EdgesFit.UNKNOWN, OUTSIDE = EdgesFit.OUTSIDE;
    private static final int NEEDLE = 4, EVERY_STRIPE = 0xFFFFFF;
    private static final int[] FAR = {Integer.MIN_VALUE, Integer.MIN_VALUE + 1, Integer.MAX_VALUE - 1, Integer.MAX_VALUE};
    /** Floors of which the greatest mirror is about one place alone: about 1, about 2, and so on. */
    private static final int[] ONE_PLACE = {
        0xAAAAAB, 0xEE2B8F, 0x2C515E, 0xFBEEE7, 0x6AE249, 0xD5C492, 0xF34739, 0xE68E72, 0x08A7AE, 0x156075, 0x2AC0EA, 0x000000,
        0xAB03A8, 0xA6F28F, 0x15E5F1, 0xF3CCB5, 0xB7BC6F, 0x40215F, 0x1E0823, 0x3C1046, 0x84D953, 0x9D7577, 0x2AAAAA};
    /** Two places of which both mirrors are greatest, a floor, and the one that is due. */
    private static final int[][] TWO_PLACES = {
        {11, 13, 0xC7CC13, 11}, {12, 13, 0x1600B8, 12}, {10, 14, 0xC16F15, 10}, {10, 13, 0x3779B1, 13}, {11, 14, 0x6EF362, 11},
        {9, 15, 0xE80486, 9}, {9, 14, 0x946314, 14}, {10, 15, 0x5D3951, 10}, {8, 16, 0x343E69, 8}, {8, 15, 0xEE1196, 15},
        {9, 16, 0x7DA7B9, 9}, {7, 17, 0xB841EB, 7}, {7, 16, 0xA27728, 16}, {8, 17, 0x179193, 8}, {6, 18, 0x065C97, 6},
        {6, 17, 0x285B0C, 17}, {7, 18, 0xAF14C1, 7}, {5, 19, 0x21AE87, 5}, {5, 18, 0xE6594B, 18}, {6, 19, 0x1E8D9F, 6},
        {4, 20, 0x189C24, 4}, {4, 19, 0xDE3719, 19}, {5, 20, 0xE7B431, 5}, {3, 21, 0x78208C, 3}, {3, 20, 0x5B2361, 20},
        {4, 21, 0xB646C2, 4}, {2, 22, 0x0A3889, 2}, {2, 21, 0x4EBAEF, 21}, {3, 22, 0x9D7713, 3}, {1, 23, 0x2AAAAB, 1}};
    private static final Sentences BY = new Sentences();

    private static void due(String call, long got, long want) {
        BY.due(call, got, want);
    }

    public static void main(String[] args) {
        howFarThePoleWas();
        agreeingMost();
        lookedAt();
        thePoleIsLeast();
        poleAsked();
        putOrAtHome();
        withoutANeedle();
        poleRefused();
        floorBounds();
        mirrorUntilOneIsNot();
        mirrorUntilASideEnds();
        mirrorRefused();
        ridgeOfLikeOnes();
        floorBecomes();
        ridges();
        BY.end(28, 31);
    }

    private static int steps(int cell, int other) {
        int columns = Math.abs(cell % 16 - other % 16);
        return Math.abs(cell / 16 - other / 16) + Math.min(columns, 16 - columns);
    }

    private static void duePole(String of, EdgesFit x, int land, int put, int v, int... want) {
        for (int what = 0; what < 3; what++) {
            due(of + ": pole(" + land + ", " + put + ", " + v + ", " + what + ")", x.pole(land, put, v, what), want[what]);
        }
    }

    private static void howFarThePoleWas() {
        BY.of(Sentences.TERMS, "NEEDLES tell how far the pole was (n): from a CELL to another one: the difference of ROWS and that of COLUMNS (the shorter way around) together.");
        for (int cell = 0; cell < 128; cell++) {
            for (int n = 0; n < 16; n++) {
                int least = NONE;
                int many = 0;
                for (int pole = 127; pole >= 0; pole--) {
                    if (steps(cell, pole) == n) {
                        least = pole;
                        many++;
                    }
                }
                EdgesFit x = new EdgesFit();
                x.cell(3, cell);
                x.mark(NEEDLE, cell, n);
                String of = "needle on " + cell + " of " + n;
                if (many > 0) {
                    duePole(of, x, NONE, NONE, 0, least, 1, many);
                } else {
                    duePole(of + ", nowhere so far: each is as good", x, NONE, NONE, 0, 0, 0, 128);
                }
            }
        }
        EdgesFit x = new EdgesFit();
        x.cell(0, 5);
        x.mark(NEEDLE, 5, 15);
        duePole("the farthest of all", x, 0, NONE, 0, 125, 1, 1);
        x.drop();
        x.mark(NEEDLE, 5, 0);
        duePole("just there", x, 0, NONE, 0, 5, 1, 1);
    }

    private static void agreeingMost() {
        BY.of(Sentences.TERMS, "AGREE of a CELL: from how many NEEDLES of those looked at it is just so far; A POLE: one for which AGREE is greatest.");
        EdgesFit x = new EdgesFit();
        x.cell(0, 0);
        x.cell(0, 3);
        for (int i = 1; i <= 40; i++) {
            x.mark(NEEDLE, 0, 0);
            duePole(i + " needles", x, NONE, NONE, 0, 0, i, 1);
        }
        EdgesFit y = new EdgesFit();
        y.cell(0, 0);
        y.cell(0, 3);
        y.mark(NEEDLE, 0, 1);
        y.mark(NEEDLE, 3, 2);
        // One step from cell 0: 1, 15, 16; two steps from cell 3: 1, 5, 18, 20, 35.
        duePole("two agree on one", y, NONE, NONE, 0, 1, 2, 1);
        y.drop();
        y.mark(NEEDLE, 3, 9);
        // Nine steps from cell 3: 27, 42, 44 and so on, none of them one step from cell 0.
        duePole("each agrees on its own: the least", y, NONE, NONE, 0, 1, 1, 3 + 13);
        y.mark(NEEDLE, 3, 8);
        y.mark(NEEDLE, 3, 8);
        duePole("the greatest is not the first", y, NONE, NONE, 0, 11, 2, 15);
    }

    private static void lookedAt() {
        BY.of(Sentences.TERMS, "Looked at are those of one LAND, or of all; LANDS at HOME, or one of them PUT.");
        EdgesFit x = new EdgesFit();
        for (int land = 0; land < 6; land++) {
            x.cell(land, 16 * land + land);
            x.mark(NEEDLE, 16 * land + land, 0);
        }
        for (int land = 0; land < 6; land++) {
            int home = 16 * land + land;
            duePole("those of one", x, land, NONE, 0, home, 1, 1);
            duePole("it is put", x, land, land, 15, home - (land == 0 ? -15 : 1), 1, 1);
            duePole("another one is put", x, land, (land + 1) % 6, 15, home, 1, 1);
            duePole("all, one of them put", x, NONE, land, 15, land == 0 ? 15 : 0, 1, 6);
        }
        duePole("all", x, NONE, NONE, 0, 0, 1, 6);
        for (int kind = 0; kind < 6; kind++) {
            EdgesFit y = new EdgesFit();
            y.cell(1, 40);
            y.mark(kind, 40, 0);
            duePole("a mark of kind " + kind, y, NONE, NONE, 0, kind == NEEDLE ? 40 : NONE, kind == NEEDLE ? 1 : 0, kind == NEEDLE ? 1 : 0);
        }
    }

    private static void thePoleIsLeast() {
        BY.of(Sentences.TERMS, "THE POLE: the least such CELL.");
        for (int cell = 0; cell < 128; cell++) {
            EdgesFit x = new EdgesFit();
            x.cell(2, cell);
            x.mark(NEEDLE, cell, 1);
            int least = cell >= 16 ? cell - 16 : cell == 0 ? 1 : cell == 15 ? 0 : cell - 1;
            due("one step from " + cell, x.pole(2, NONE, 0, 0), least);
        }
    }

    private static void poleAsked() {
        BY.of(28, "THE POLE by NEEDLES of a LAND, or of all (land NONE), if LAND put is PUT by v COLUMNS (put NONE: all are at HOME): what = 0 the CELL, 1 AGREE, 2 how many CELLS are POLES");
        EdgesFit x = new EdgesFit();
        x.run(0, 2, 4, 2);
        x.cell(1, 66);
        x.mark(NEEDLE, 36, 1);
        x.mark(NEEDLE, 37, 2);
        x.mark(NEEDLE, 66, 0);
        // One step from 36: 20, 35, 37, 52; of these 20, 35 and 52 are two steps from 37.
        duePole("of land 0", x, 0, NONE, 0, 20, 2, 3);
        duePole("of land 1", x, 1, NONE, 0, 66, 1, 1);
        duePole("of all", x, NONE, NONE, 0, 20, 2, 3);
        duePole("of land 0, put", x, 0, 0, 14, 18, 2, 3);
        // Put by fourteen columns the needles of land 0 agree on 18, 33 and 50; land 1 put by 1 is at 67.
        duePole("of all, land 0 put", x, NONE, 0, 14, 18, 2, 3);
        duePole("of all, land 1 put", x, NONE, 1, 1, 20, 2, 3);
        x.mark(NEEDLE, 66, 2);
        x.mark(NEEDLE, 66, 2);
        // Two steps from 66: 34, 49, 51, 64, 68, 81, 83, 98.
        duePole("of land 1: the two that agree", x, 1, NONE, 0, 34, 2, 8);
        duePole("of all: more cells alike", x, NONE, NONE, 0, 20, 2, 3 + 8);
        // Put by one column: 35, 50, 52 and so on; 35 and 52 are those of land 0, too.
        duePole("of all, land 1 put where four agree", x, NONE, 1, 1, 35, 4, 2);
    }

    private static void putOrAtHome() {
        BY.of(28, "if LAND put is PUT by v COLUMNS (put NONE: all are at HOME)");
        for (int column = 0; column < 16; column++) {
            EdgesFit x = new EdgesFit();
            x.cell(5, 112 + column);
            x.mark(NEEDLE, 112 + column, 0);
            for (int v = 0; v < 16; v++) {
                due("column " + column + " by " + v, x.pole(5, 5, v, 0), 112 + (column + v) % 16);
                due("column " + column + " by " + v + ", of all", x.pole(NONE, 5, v, 0), 112 + (column + v) % 16);
                due("put NONE, v " + v, x.pole(5, NONE, v, 0), 112 + column);
                due("another one is put, v " + v, x.pole(5, 0, v, 0), 112 + column);
            }
        }
        EdgesFit x = new EdgesFit();
        x.run(0, 3, 0, 16);
        for (int column = 0; column < 16; column++) {
            x.mark(NEEDLE, 48 + column, 0);
        }
        for (int v = 0; v < 16; v++) {
            duePole("a whole ring by " + v, x, 0, 0, v, 48, 1, 16);
        }
    }

    private static void withoutANeedle() {
        BY.of(28, "without a NEEDLE: NONE, 0, 0.");
        EdgesFit x = new EdgesFit();
        duePole("no mark", x, NONE, NONE, 0, NONE, 0, 0);
        x.cell(0, 7);
        x.cell(1, 8);
        for (int kind = 0; kind < 6; kind++) {
            if (kind != NEEDLE) {
                x.mark(kind, 7, 3);
            }
        }
        duePole("no needle", x, NONE, 0, 15, NONE, 0, 0);
        duePole("no needle of land 0", x, 0, 0, 15, NONE, 0, 0);
        x.mark(NEEDLE, 8, 0);
        duePole("one of land 1", x, 0, 1, 15, NONE, 0, 0);
        duePole("one of land 1, of all", x, NONE, 1, 15, 7, 1, 1);
        duePole("of a land without cells", x, 5, 1, 15, NONE, 0, 0);
        x.drop();
        duePole("it is gone", x, NONE, NONE, 0, NONE, 0, 0);
    }

    private static void poleRefused() {
        BY.of(28, "UNKNOWN: land, put; OUTSIDE.");
        EdgesFit x = new EdgesFit();
        for (int wrong : new int[] {-2, 6, Integer.MIN_VALUE, Integer.MAX_VALUE}) {
            due("land " + wrong, x.pole(wrong, 0, 16, 0), UNKNOWN);
            due("put " + wrong, x.pole(0, wrong, 0, 3), UNKNOWN);
            due("land " + wrong + ", put NONE", x.pole(wrong, NONE, 0, 0), UNKNOWN);
            due("land NONE, put " + wrong, x.pole(NONE, wrong, 0, 0), UNKNOWN);
        }
        for (int put = NONE; put < 6; put++) {
            due("v 0, put " + put, x.pole(5, put, 0, 0), NONE);
            due("v 15, put " + put, x.pole(NONE, put, 15, 2), 0);
            due("v -1, put " + put, x.pole(0, put, -1, 0), OUTSIDE);
            due("v 16, put " + put, x.pole(NONE, put, 16, 0), OUTSIDE);
            due("what -1, put " + put, x.pole(NONE, put, 0, -1), OUTSIDE);
            due("what 3, put " + put, x.pole(0, put, 0, 3), OUTSIDE);
        }
        for (int far : FAR) {
            due("v " + far, x.pole(0, 0, far, 0), OUTSIDE);
            due("what " + far, x.pole(0, 0, 0, far), OUTSIDE);
        }
    }

    private static EdgesFit floor(int stripes) {
        EdgesFit x = new EdgesFit();
        x.floor(stripes);
        return x;
    }

    private static void floorBounds() {
        BY.of(Sentences.TERMS, "A FLOOR: 24 stripes (stripe i is bit i; 1 this way, 0 that way), 0 at first");
        due("at first", new EdgesFit().floor(1), 0);
        for (int stripe = 0; stripe < 24; stripe++) {
            EdgesFit x = floor(1 << stripe);
            due("stripe " + stripe + " is kept", x.floor(0), 1 << stripe);
            EdgesFit y = floor(1 << stripe);
            due("stripe " + stripe + " and the one behind", stripe == 23 ? 0 : y.mirror(stripe + 1), 0);
            due("stripe " + stripe + " and the one ahead", stripe == 0 ? 0 : y.mirror(stripe), 0);
        }
        due("stripe 24", new EdgesFit().floor(1 << 24), OUTSIDE);
        due("all 24", floor(EVERY_STRIPE).floor(0), EVERY_STRIPE);
    }

    private static void mirrorUntilOneIsNot() {
        BY.of(Sentences.TERMS, "MIRROR about a place between stripe i-1 and i (1 to 23): how many stripes on either side are the same, pair by pair from there on, until one is not, or a side ends.");
        for (int place = 1; place <= 23; place++) {
            int most = Math.min(place, 24 - place);
            for (int pair = 0; pair < most; pair++) {
                int behind = 1 << place + pair;
                int ahead = 1 << place - 1 - pair;
                String at = "place " + place + ", pair " + pair;
                due(at + ": 1 behind, 0 ahead", floor(behind).mirror(place), pair);
                due(at + ": 0 behind, 1 ahead", floor(ahead).mirror(place), pair);
                due(at + ": 0 behind, all else 1", floor(EVERY_STRIPE ^ behind).mirror(place), pair);
                due(at + ": both 1", floor(behind | ahead).mirror(place), most);
                due(at + ": both 0, all else 1", floor(EVERY_STRIPE ^ behind ^ ahead).mirror(place), most);
            }
        }
    }

    private static void mirrorUntilASideEnds() {
        BY.of(Sentences.TERMS, "until one is not, or a side ends.");
        for (int place = 1; place <= 23; place++) {
            int most = Math.min(place, 24 - place);
            due("all 0 about " + place, floor(0).mirror(place), most);
            due("all 1 about " + place, floor(EVERY_STRIPE).mirror(place), most);
            for (int stripe = 0; stripe < 24; stripe++) {
                boolean beyond = stripe < place - most || stripe >= place + most;
                if (beyond) {
                    due("stripe " + stripe + " beyond " + place, floor(1 << stripe).mirror(place), most);
                }
            }
        }
    }

    private static void mirrorRefused() {
        BY.of(30, "MIRROR about a place. OUTSIDE.");
        EdgesFit x = new EdgesFit();
        due("place 1", x.mirror(1), 1);
        due("place 23", x.mirror(23), 1);
        due("place 12", x.mirror(12), 12);
        due("place 0", x.mirror(0), OUTSIDE);
        due("place 24", x.mirror(24), OUTSIDE);
        due("place -1", x.mirror(-1), OUTSIDE);
        due("place 25", x.mirror(25), OUTSIDE);
        for (int far : FAR) {
            due("place " + far, x.mirror(far), OUTSIDE);
        }
    }

    private static void ridgeOfLikeOnes() {
        BY.of(Sentences.TERMS, "THE RIDGE: the place of the greatest MIRROR, of like ones the one nearest to 12, of like ones the lesser.");
        for (int[] two : TWO_PLACES) {
            EdgesFit x = floor(two[2]);
            due("both mirrors are alike", x.mirror(two[0]), x.mirror(two[1]));
            for (int place = 1; place <= 23; place++) {
                boolean greatest = place == two[0] || place == two[1];
                due(place + " is one of both", x.mirror(place) == x.mirror(two[0]) ? 1 : 0, greatest ? 1 : 0);
            }
            due("ridge of " + two[0] + " and " + two[1], x.ridge(), two[3]);
        }
    }

    private static void floorBecomes() {
        BY.of(29, "The FLOOR becomes another one (0 to 16777215): what it was. OUTSIDE.");
        EdgesFit x = new EdgesFit();
        due("0", x.floor(0), 0);
        due("16777215", x.floor(16777215), 0);
        for (int wrong : new int[] {-1, 16777216, 1 << 30, -16777215, Integer.MIN_VALUE, Integer.MAX_VALUE}) {
            due("" + wrong, x.floor(wrong), OUTSIDE);
        }
        due("1", x.floor(1), 16777215);
        due("the same", x.floor(1), 1);
        due("0 again", x.floor(0), 1);
    }

    private static void ridges() {
        BY.of(31, "THE RIDGE.");
        due("of a new object", new EdgesFit().ridge(), 12);
        due("all 1", floor(EVERY_STRIPE).ridge(), 12);
        due("no mirror at all: the middle", floor(0xAAAAAA).ridge(), 12);
        due("no mirror at all: the middle", floor(0x555555).ridge(), 12);
        for (int place = 1; place <= 23; place++) {
            EdgesFit x = floor(ONE_PLACE[place - 1]);
            due("the ridge " + place, x.ridge(), place);
            for (int other = 1; other <= 23; other++) {
                due("greater than about " + other, other == place || x.mirror(other) < x.mirror(place) ? 1 : 0, 1);
            }
        }
        EdgesFit x = floor(0x2AAAAA);
        due("about 23", x.ridge(), 23);
        x.floor(0);
        due("the ridge of the floor as it is now", x.ridge(), 12);
    }
}
