/**
 * "Refusals, of several the first as told by each call: UNKNOWN (a number names nothing), OUTSIDE (it is not as told),
 * STATE (as told), FULL; they change nothing." Of each call: each cause alone, and each two at once.
 */
final class RefusalsTest {
    private static final int UNKNOWN = Refusable.UNKNOWN, OUTSIDE = Refusable.OUTSIDE;
    private static final int STATE = Refusable.STATE, FULL = Refusable.FULL;
    private static final Check CHECK = new Check();

    public static void main(String[] args) {
        lands();
        marks();
        fits();
        page();
        laws();
        beasts();
        stories();
        poles();
        told();
        asking();
        CHECK.end();
    }

    /** A bit of everything: all six lands, seven marks, three beasts and claims, a law on the page. */
    private static EdgesFit world() {
        EdgesFit x = new EdgesFit();
        x.run(0, 2, 0, 4);
        x.run(1, 2, 5, 3);
        x.run(1, 3, 5, 1);
        x.run(2, 4, 14, 4);
        x.cell(3, 0);
        x.cell(4, 127);
        x.run(5, 5, 8, 2);
        int[][] marks = {{1, 35, 4}, {1, 37, 5}, {2, 35, 7}, {5, 37, 7}, {4, 32, 6}, {4, 64, 5}, {3, 37, 9}};
        for (int[] mark : marks) {
            x.mark(mark[0], mark[1], mark[2]);
        }
        Check.tell(x, 0, "C:15");
        Check.tell(x, 0, "B:7?d<4");
        Check.tell(x, 1, "C:30?!d>9");
        Check.tell(x, 1, "J:1");
        Check.tell(x, 1, "S:9?k=2|e>4");
        x.beast(3, 2);
        x.beast(13, 5);
        x.beast(63, 9);
        x.claim(0, 1, 3, true, 20);
        x.claim(1, 0, 5, false, 7);
        x.claim(2, 5, 9, true, 30);
        x.speed(3);
        x.floor(0x2AAAA5);
        Check.write(x, "B:7?d<9");
        return x;
    }

    private static void look(Refusable call) {
        call.look(CHECK, RefusalsTest::world);
    }

    private static Refusable call(String name, Refusable.Asking asking, long... good) {
        return new Refusable(name, asking, good);
    }

    private static Refusable twoLands(Refusable call, int a) {
        // Land 0 is the good one for a, so that 0 for b is the same.
        return call.range(UNKNOWN, a, 0, 5).range(UNKNOWN, a + 1, 1, 5).wrong(UNKNOWN, a + 1, -1);
    }

    private static void fillMarks(EdgesFit x) {
        for (int i = x.count(1); i < 40; i++) {
            x.mark(i % 6, 32 + i % 4, i % 16);
        }
    }

    private static void dropAll(EdgesFit x) {
        for (int i = x.count(1); i > 0; i--) {
            x.drop();
        }
    }

    private static void lands() {
        look(call("cell", (x, a) -> x.cell((int) a[0], (int) a[1]), 1, 36)
            .range(UNKNOWN, 0, -1, 5).range(UNKNOWN, 1, 0, 127).wrong(UNKNOWN, 1, 128 + 36, 36 - 128)
            .wrong(STATE, 1, 35, 37, 32, 64));
        look(call("cell of its own land", (x, a) -> x.cell((int) a[0], (int) a[1]), 0, 33).wrong(STATE, 1, 32, 35));
        look(call("cell to none", (x, a) -> x.cell((int) a[0], (int) a[1]), -1, 33).wrong(STATE, 1, 32, 35));
        look(call("run", (x, a) -> x.run((int) a[0], (int) a[1], (int) a[2], (int) a[3]), 1, 6, 3, 5)
            .range(UNKNOWN, 0, 0, 5).range(UNKNOWN, 1, 0, 7).range(UNKNOWN, 2, 0, 15).range(OUTSIDE, 3, 1, 16));
        look(call("land", (x, a) -> x.land((int) a[0], (int) a[1]), 0, 0)
            .range(UNKNOWN, 0, 0, 5).range(OUTSIDE, 1, 0, 2));
    }

    private static void marks() {
        look(call("mark", (x, a) -> x.mark((int) a[0], (int) a[1], (int) a[2]), 0, 33, 3)
            .range(UNKNOWN, 1, 0, 127).wrong(UNKNOWN, 1, 1, 36, 126)
            .range(OUTSIDE, 0, 0, 5).range(OUTSIDE, 2, 0, 15)
            .after(FULL, "40 marks", RefusalsTest::fillMarks));
        look(call("as", (x, a) -> x.as((int) a[0], (int) a[1]), 3, 2)
            .range(UNKNOWN, 0, 0, 6).range(OUTSIDE, 1, 0, 5)
            .after(UNKNOWN, "all marks are dropped", RefusalsTest::dropAll));
        look(call("about", (x, a) -> x.about((int) a[0], (int) a[1]), 3, 2)
            .range(UNKNOWN, 0, 0, 6).range(OUTSIDE, 1, 0, 3)
            .after(UNKNOWN, "all marks are dropped", RefusalsTest::dropAll));
        look(call("goesOn", (x, a) -> x.goesOn((int) a[0], (int) a[1]), 0, 1)
            .range(UNKNOWN, 0, 0, 6).range(UNKNOWN, 1, 0, 6)
            .after(UNKNOWN, "all marks are dropped", RefusalsTest::dropAll));
        look(call("drop", (x, a) -> x.drop()).after(STATE, "all marks are dropped", RefusalsTest::dropAll));
    }

    private static void fits() {
        // Land 1 lies in rows 2 and 3; put four columns further east it lies apart from land 0.
        Refusable put = call("put", (x, a) -> x.put((int) a[0], (int) a[1], (int) a[2], (int) a[3], (int) a[4]), 0, 1, 0, 15, 0);
        look(twoLands(put.answering(-1000002, -1000003, -1000001, -1000001), 0)
            .range(OUTSIDE, 2, -7, 7).range(OUTSIDE, 3, 0, 15).range(OUTSIDE, 4, 0, 5)
            .wrong(STATE, 2, -7, -3, 5, 7).allow(STATE, 2, -2, 4));
        Refusable counts = call("put", (x, a) -> x.put((int) a[0], (int) a[1], (int) a[2], (int) a[3], (int) a[4]), 0, 1, 0, 15, 4);
        look(twoLands(counts.answering(-1000002, -1000003, 0, 0), 0)
            .range(OUTSIDE, 2, -7, 7).range(OUTSIDE, 3, 0, 15).wrong(STATE, 2, -7, -3, 5, 7));
        Refusable fit = call("fit", (x, a) -> x.fit((int) a[0], (int) a[1], (int) a[2]), 0, 1, 0);
        look(twoLands(fit, 0).range(OUTSIDE, 2, 0, 2));
        Refusable chance = call("chance",
            (x, a) -> x.chance((int) a[0], (int) a[1], (int) a[2], (int) a[3], (int) a[4]), 0, 1, 0, 15, 0);
        look(twoLands(chance, 0).range(OUTSIDE, 2, -7, 7).range(OUTSIDE, 3, 0, 15).range(OUTSIDE, 4, 0, 1)
            .wrong(STATE, 2, -7, -3, 5, 7, 1).wrong(STATE, 3, 4));
        Refusable beside = call("beside", (x, a) -> x.beside((int) a[0], (int) a[1], (int) a[2], (int) a[3]), 0, 1, 0, 15);
        look(twoLands(beside, 0).range(OUTSIDE, 2, -7, 7).range(OUTSIDE, 3, 0, 15)
            .wrong(STATE, 2, -7, -3, 5, 7).allow(STATE, 2, -2, 4));
    }

    private static void fillPage(EdgesFit x) {
        for (int i = x.count(6); i < 49; i++) {
            x.letters('a' + i % 20);
        }
    }

    private static void page() {
        look(call("letters", (x, a) -> x.letters(a[0]), Check.packed("ab"))
            .allow(OUTSIDE, 0, 0, 1, 126, 126 << 8 | 1, 0x7E7E7E7E7E7E7E7EL, 0x0101010101010101L)
            .wrong(OUTSIDE, 0, 127, 128, 255, 127 << 8 | 1, 255L << 56 | 0x01010101010101L, 127L << 56 | 0x01010101010101L)
            .wrong(OUTSIDE, 0, 1 << 8, 1L << 16 | 1, 1L << 56, 1L << 56 | 0x010101010101L, -1, Long.MIN_VALUE, Long.MAX_VALUE)
            .after(FULL, "49 letters", RefusalsTest::fillPage));
        look(call("blank", (x, a) -> x.blank()));
        look(call("fault", (x, a) -> x.fault()));
    }

    private static void fillLaws(EdgesFit x) {
        x.blank();
        for (int i = x.count(2); i < 8; i++) {
            Check.tell(x, 0, "S:" + i);
        }
        Check.write(x, "B:7?d<9");
    }

    private static void strikeAll(EdgesFit x) {
        for (int holder = 0; holder < 2; holder++) {
            for (int i = x.count(2 + holder); i > 0; i--) {
                x.strike(holder);
            }
        }
    }

    private static void laws() {
        look(call("law", (x, a) -> x.law((int) a[0]), 0)
            .range(UNKNOWN, 0, 0, 1)
            .after(STATE, "a letter too many", x -> x.letters('x'))
            .after(STATE, "a factor is begun", x -> x.letters('&'))
            .after(STATE, "a blank", EdgesFit::blank)
            .after(FULL, "eight laws", RefusalsTest::fillLaws));
        look(call("strike", (x, a) -> x.strike((int) a[0]), 0)
            .range(UNKNOWN, 0, 0, 1)
            .after(STATE, "all laws are struck", RefusalsTest::strikeAll));
        look(twoLands(call("distance", (x, a) -> x.distance((int) a[0], (int) a[1]), 0, 1), 0));
    }

    private static void fillBeasts(EdgesFit x) {
        for (int i = x.count(4); i < 8; i++) {
            x.beast(7 * i, i);
        }
    }

    private static void beasts() {
        look(call("beast", (x, a) -> x.beast((int) a[0], (int) a[1]), 3, 4)
            .range(OUTSIDE, 0, 1, 63).wrong(OUTSIDE, 0, 65, 127, 128, -63).range(OUTSIDE, 1, 0, 9)
            .after(FULL, "eight beasts", RefusalsTest::fillBeasts));
        Refusable crossing = call("crossing",
            (x, a) -> x.crossing((int) a[0], (int) a[1], (int) a[2], (int) a[3], (int) a[4]), 0, 0, 0, 1, 0);
        look(twoLands(crossing.range(UNKNOWN, 0, 0, 1).range(UNKNOWN, 1, 0, 2), 2).range(OUTSIDE, 4, 0, 1));
        look(call("spread", (x, a) -> x.spread((int) a[0], (int) a[1], (int) a[2]), 0, 0, 0)
            .range(UNKNOWN, 0, 0, 1).range(UNKNOWN, 1, 0, 2).range(OUTSIDE, 2, 0, 1));
        look(call("unlike", (x, a) -> x.unlike((int) a[0]), 0).range(OUTSIDE, 0, 0, 1));
    }

    private static void fillClaims(EdgesFit x) {
        for (int i = x.count(5); i < 12; i++) {
            x.claim(i % 6, (i + 1) % 6, i % 10, i % 2 == 0, 8 * i);
        }
    }

    private static void stories() {
        look(call("speed", (x, a) -> x.speed((int) a[0]), 1).range(OUTSIDE, 0, 0, 7));
        for (int beside = 0; beside < 2; beside++) {
            Refusable claim = call("claim",
                (x, a) -> x.claim((int) a[0], (int) a[1], (int) a[2], a[3] == 1, (int) a[4]), 0, 1, 3, beside, 20);
            look(twoLands(claim, 0).range(OUTSIDE, 2, 0, 9).range(OUTSIDE, 4, 1, 99)
                .after(FULL, "twelve claims", RefusalsTest::fillClaims));
        }
        look(call("story", (x, a) -> x.story((int) a[0], (int) a[1]), 0, 0)
            .range(UNKNOWN, 0, 0, 5).allow(OUTSIDE, 1, 0, 10, 19)
            .wrong(OUTSIDE, 1, -1, 1, 9, 20, -10, Integer.MIN_VALUE, Integer.MIN_VALUE + 10, Integer.MAX_VALUE));
        look(call("judge", (x, a) -> x.judge((int) a[0], a[1]), 0, 0)
            .range(UNKNOWN, 0, 0, 5).allow(OUTSIDE, 1, 0, (1L << 40) - 1)
            .wrong(OUTSIDE, 1, -1, 1L << 40, 1L << 44, Long.MIN_VALUE, Long.MAX_VALUE));
    }

    private static void poles() {
        look(call("pole", (x, a) -> x.pole((int) a[0], (int) a[1], (int) a[2], (int) a[3]), 0, 0, 3, 0)
            .range(UNKNOWN, 0, -1, 5).range(UNKNOWN, 1, -1, 5).range(OUTSIDE, 2, 0, 15).range(OUTSIDE, 3, 0, 2));
        look(call("floor", (x, a) -> x.floor((int) a[0]), 9).range(OUTSIDE, 0, 0, 16777215));
        look(call("mirror", (x, a) -> x.mirror((int) a[0]), 9).range(OUTSIDE, 0, 1, 23));
        look(call("ridge", (x, a) -> x.ridge()));
    }

    private static void told() {
        look(call("count", (x, a) -> x.count((int) a[0]), 1).range(OUTSIDE, 0, 0, 6));
        look(call("digest", (x, a) -> x.digest()));
    }

    private static void unchanged(String name, java.util.function.Consumer<EdgesFit> asking) {
        EdgesFit x = world();
        asking.accept(x);
        CHECK.due("first answer that is another one behind " + name, Witness.firstDifference(x, world()), -1);
    }

    /** A call that only asks leaves all as it was, too. */
    private static void asking() {
        for (int what = 0; what < 20; what++) {
            int w = what;
            unchanged("land", x -> x.land(w % 6, w % 3));
            unchanged("as", x -> x.as(w % 7, w % 6));
            unchanged("about", x -> x.about(w % 7, w % 4));
            unchanged("goesOn", x -> x.goesOn(w % 7, w % 3));
            unchanged("put", x -> x.put(w % 6, (w + 1) % 6, w % 3 - 1, w % 16, w % 6));
            unchanged("fit", x -> x.fit(w % 6, (w + 2) % 6, w % 3));
            unchanged("chance", x -> x.chance(0, 1, 0, 15, w % 2));
            unchanged("beside", x -> x.beside(w % 6, (w + 1) % 6, 0, w % 16));
            unchanged("fault", EdgesFit::fault);
            unchanged("distance", x -> x.distance(w % 6, (w + 1) % 6));
            unchanged("crossing", x -> x.crossing(w % 2, w % 3, w % 6, (w + 3) % 6, w % 2));
            unchanged("spread", x -> x.spread(w % 2, w % 3, w / 2 % 2));
            unchanged("unlike", x -> x.unlike(w % 2));
            unchanged("story", x -> x.story(w % 6, w < 10 ? 0 : w));
            unchanged("judge", x -> x.judge(w % 6, (long) w << 32));
            unchanged("pole", x -> x.pole(w % 7 - 1, w % 5 - 1, w % 16, w % 3));
            unchanged("mirror", x -> x.mirror(w + 1));
            unchanged("ridge", EdgesFit::ridge);
            unchanged("count", x -> x.count(w % 7));
            unchanged("digest", EdgesFit::digest);
        }
    }
}
