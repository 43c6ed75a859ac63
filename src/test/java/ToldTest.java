/** Promises 32 and 33: what is counted, and the digest. */
final class ToldTest {
    private static final Check CHECK = new Check();

    private static void due(String call, long got, long want) {
        CHECK.due(call, got, want);
    }

    public static void main(String[] args) {
        counts();
        digestOfNothing();
        digestOfAll();
        CHECK.end();
    }

    private static EdgesFit world() {
        EdgesFit x = new EdgesFit();
        x.run(0, 0, 0, 3);
        x.cell(5, 127);
        x.mark(1, 2, 14);
        x.mark(5, 127, 3);
        Check.tell(x, 0, "C:12");
        Check.tell(x, 0, "S:9?d<9");
        Check.tell(x, 1, "J:1");
        x.beast(33, 7);
        x.beast(4, 0);
        x.beast(7, 9);
        x.speed(5);
        x.claim(0, 5, 3, true, 44);
        x.claim(5, 0, 9, false, 1);
        x.claim(5, 1, 8, false, 2);
        x.claim(5, 2, 7, false, 3);
        x.floor(0x2AAAAA);
        Check.write(x, "Jk:90");
        return x;
    }

    private static void counts() {
        EdgesFit x = world();
        int[] want = {4, 2, 2, 1, 3, 4, 5};
        for (int what = 0; what < want.length; what++) {
            due("32 count(" + what + ")", x.count(what), want[what]);
        }
        due("32 count(7)", x.count(7), EdgesFit.OUTSIDE);
        due("32 count(-1)", x.count(-1), EdgesFit.OUTSIDE);
    }

    private static long folded(long... numbers) {
        return foldedOn(313, numbers);
    }

    private static long foldedOn(long h, long... numbers) {
        for (long number : numbers) {
            h = 31 * h + number;
        }
        return h;
    }

    private static long lots(long h, int many, long number) {
        for (int i = 0; i < many; i++) {
            h = 31 * h + number;
        }
        return h;
    }

    private static void digestOfNothing() {
        long h = lots(313, 128, -1);
        h = lots(h, 15, 99);
        h = foldedOn(h, 2, 0, 12, 0, 0, 0, 0, 0, 0, 0);
        due("33 digest of a new object", new EdgesFit().digest(), h);
    }

    private static void digestOfAll() {
        long h = folded(0, 0, 0);
        h = lots(h, 124, -1);
        h = foldedOn(h, 5);
        h = foldedOn(h, 1, 2, 14, 3, 5, 127, 3, 2);
        h = foldedOn(h, 99, 99, 99, 99, 8);
        h = lots(h, 10, 99);
        h = foldedOn(h, 33, 7, 9, -1, 4, 0, 0, 0, 7, 9, 24, -1);
        h = foldedOn(h, 5);
        h = foldedOn(h, 0, 5, 3, 1, 44, 5, 0, 9, 0, 1, 5, 1, 8, 0, 2, 5, 2, 7, 0, 3);
        h = foldedOn(h, 0x2AAAAA, 23);
        h = foldedOn(h, 'J', 'k', ':', '9', '0');
        h = foldedOn(h, 4, 2, 2, 1, 3, 4, 5);
        EdgesFit x = world();
        due("33 digest", x.digest(), h);
        due("33 digest changes nothing", x.digest(), h);
    }
}
