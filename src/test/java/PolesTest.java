/** Promises 28 to 31: poles, floors. */
final class PolesTest {
    private static final Check CHECK = new Check();

    private static void due(String call, long got, long want) {
        CHECK.due(call, got, want);
    }

    public static void main(String[] args) {
        poles();
        noPoleAgrees();
        refusalsOfPole();
        floors();
        mirrors();
        ridges();
        CHECK.end();
    }

    private static void duePole(EdgesFit x, int land, int put, int v, int... want) {
        for (int what = 0; what < 3; what++) {
            due("28 pole(" + land + ", " + put + ", " + v + ", " + what + ")", x.pole(land, put, v, what), want[what]);
        }
    }

    private static void poles() {
        EdgesFit x = new EdgesFit();
        duePole(x, -1, -1, 0, -1, 0, 0);
        x.cell(0, 0);
        x.cell(1, 36);
        x.mark(0, 0, 1);
        x.mark(5, 0, 1);
        duePole(x, -1, -1, 0, -1, 0, 0);
        x.mark(4, 0, 0);
        duePole(x, -1, -1, 0, 0, 1, 1);
        duePole(x, 0, -1, 0, 0, 1, 1);
        duePole(x, 1, -1, 0, -1, 0, 0);
        duePole(x, 0, -1, 5, 0, 1, 1);
        duePole(x, 0, 0, 5, 5, 1, 1);
        duePole(x, 0, 1, 5, 0, 1, 1);
        x.mark(4, 36, 6);
        duePole(x, -1, -1, 0, 0, 2, 1);
        // 36 is in row 2, column 4: two cells of each row are six steps off it.
        duePole(x, 1, -1, 0, 0, 1, 16);
        duePole(x, -1, 1, 15, 0, 1, 17);
        duePole(x, -1, 1, 8, 0, 2, 1);
        x.mark(4, 36, 6);
        duePole(x, -1, -1, 0, 0, 3, 1);
        duePole(x, -1, 0, 8, 8, 3, 1);
        duePole(x, -1, 0, 9, 0, 2, 16);
        duePole(x, -1, 0, 1, 0, 2, 16);
    }

    private static void noPoleAgrees() {
        EdgesFit x = new EdgesFit();
        x.cell(2, 64);
        x.mark(4, 64, 15);
        duePole(x, -1, -1, 0, 0, 0, 128);
        EdgesFit y = new EdgesFit();
        y.cell(2, 127);
        y.mark(4, 127, 15);
        duePole(y, 2, -1, 0, 7, 1, 1);
        duePole(y, 2, 2, 3, 10, 1, 1);
    }

    private static void refusalsOfPole() {
        EdgesFit x = new EdgesFit();
        due("28 land 6", x.pole(6, 0, 0, 0), EdgesFit.UNKNOWN);
        due("28 land -2", x.pole(-2, 0, 16, 0), EdgesFit.UNKNOWN);
        due("28 put 6", x.pole(0, 6, 0, 0), EdgesFit.UNKNOWN);
        due("28 put -2", x.pole(0, -2, 0, 3), EdgesFit.UNKNOWN);
        due("28 v 16", x.pole(0, 0, 16, 0), EdgesFit.OUTSIDE);
        due("28 v -1", x.pole(0, 0, -1, 0), EdgesFit.OUTSIDE);
        due("28 v 16 at home", x.pole(0, -1, 16, 0), EdgesFit.OUTSIDE);
        due("28 what 3", x.pole(0, 0, 0, 3), EdgesFit.OUTSIDE);
        due("28 what -1", x.pole(-1, -1, 0, -1), EdgesFit.OUTSIDE);
    }

    private static void floors() {
        EdgesFit x = new EdgesFit();
        due("29 at first", x.floor(16777215), 0);
        CHECK.refused(x, "29 16777216", () -> x.floor(16777216), EdgesFit.OUTSIDE);
        CHECK.refused(x, "29 -1", () -> x.floor(-1), EdgesFit.OUTSIDE);
        due("29 then", x.floor(5), 16777215);
        due("29 then", x.floor(0), 5);
    }

    private static void mirrors() {
        EdgesFit x = new EdgesFit();
        for (int place = 1; place <= 23; place++) {
            due("30 all alike " + place, x.mirror(place), Math.min(place, 24 - place));
        }
        x.floor(1);
        due("30 stripe 0 is unlike", x.mirror(1), 0);
        due("30 stripe 0 is unlike", x.mirror(2), 1);
        due("30 stripe 0 is unlike", x.mirror(12), 11);
        due("30 stripe 0 is not reached", x.mirror(13), 11);
        x.floor(1 << 23);
        due("30 stripe 23 is unlike", x.mirror(23), 0);
        due("30 stripe 23 is unlike", x.mirror(13), 10);
        due("30 stripe 23 is not reached", x.mirror(11), 11);
        x.floor(0b101101);
        due("30 about 3", x.mirror(3), 3);
        due("30 about 2: until one is not", x.mirror(2), 0);
        x.floor(0b1100110);
        due("30 about 4", x.mirror(4), 4);
        due("30 a side ends", x.mirror(2), 2);
        due("30 mirror(0)", x.mirror(0), EdgesFit.OUTSIDE);
        due("30 mirror(24)", x.mirror(24), EdgesFit.OUTSIDE);
        due("30 mirror(-1)", x.mirror(-1), EdgesFit.OUTSIDE);
    }

    private static void ridge(int stripes, int place) {
        EdgesFit x = new EdgesFit();
        x.floor(stripes);
        due("31 ridge of " + stripes, x.ridge(), place);
    }

    private static void ridges() {
        due("31 at first", new EdgesFit().ridge(), 12);
        ridge(0xAAAAAA, 12);
        ridge(0x2AAAAA, 23);
        ridge(0x555554, 1);
        ridge(0xAAAAA9, 2);
        // Alike at 1 and at 23, and nowhere else: both are eleven from 12.
        ridge(0xD55554, 1);
        ridge(1, 12);
        ridge(2, 13);
        ridge(0x001800, 12);
        ridge(0x000C00, 11);
    }
}
