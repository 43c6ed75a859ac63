/** Promises 24 to 27: speed, claims, stories told and judged. */
final class StoriesTest {
    private static final Check CHECK = new Check();

    private static void due(String call, long got, long want) {
        CHECK.due(call, got, want);
    }

    public static void main(String[] args) {
        speeds();
        claims();
        refusedClaims();
        stories();
        likeStories();
        overlaps();
        judged();
        CHECK.end();
    }

    private static void speeds() {
        EdgesFit x = new EdgesFit();
        due("24 at first", x.speed(7), 2);
        due("24 then", x.speed(0), 7);
        CHECK.refused(x, "24 speed(8)", () -> x.speed(8), EdgesFit.OUTSIDE);
        CHECK.refused(x, "24 speed(-1)", () -> x.speed(-1), EdgesFit.OUTSIDE);
        due("24 then", x.speed(1), 0);
    }

    private static void claims() {
        EdgesFit x = new EdgesFit();
        for (int i = 0; i < 12; i++) {
            due("25 claim " + i, x.claim(i % 6, (i + 1) % 6, i % 10, i % 2 == 0, i * 9), i == 0 ? EdgesFit.OUTSIDE : i - 1);
        }
        due("25 the twelfth", x.claim(0, 5, 9, false, 1), 11);
        CHECK.refused(x, "25 the thirteenth", () -> x.claim(0, 5, 9, false, 1), EdgesFit.FULL);
        CHECK.refused(x, "25 the thirteenth, outside", () -> x.claim(0, 5, 10, false, 1), EdgesFit.OUTSIDE);
        CHECK.refused(x, "25 the thirteenth, unknown", () -> x.claim(0, 0, 9, false, 1), EdgesFit.UNKNOWN);
        due("25 count", x.count(5), 12);
    }

    private static void refusedClaims() {
        EdgesFit x = new EdgesFit();
        CHECK.refused(x, "25 claim(6, ..)", () -> x.claim(6, 0, 0, true, 1), EdgesFit.UNKNOWN);
        CHECK.refused(x, "25 claim(-1, ..)", () -> x.claim(-1, 0, 10, true, 1), EdgesFit.UNKNOWN);
        CHECK.refused(x, "25 claim(0, 6, ..)", () -> x.claim(0, 6, 0, true, 1), EdgesFit.UNKNOWN);
        CHECK.refused(x, "25 claim(0, -1, ..)", () -> x.claim(0, -1, 0, true, 1), EdgesFit.UNKNOWN);
        CHECK.refused(x, "25 claim(3, 3, ..)", () -> x.claim(3, 3, 0, true, 0), EdgesFit.UNKNOWN);
        CHECK.refused(x, "25 age 10", () -> x.claim(0, 1, 10, true, 1), EdgesFit.OUTSIDE);
        CHECK.refused(x, "25 age -1", () -> x.claim(0, 1, -1, true, 1), EdgesFit.OUTSIDE);
        CHECK.refused(x, "25 weight 0", () -> x.claim(0, 1, 0, true, 0), EdgesFit.OUTSIDE);
        CHECK.refused(x, "25 weight 100", () -> x.claim(0, 1, 0, true, 100), EdgesFit.OUTSIDE);
        due("25 weight 99, age 9", x.claim(0, 1, 9, true, 99), 0);
    }

    /** Land 0 is one cell; land 1 one cell, six columns east of it. */
    private static EdgesFit two() {
        EdgesFit x = new EdgesFit();
        x.cell(0, 32);
        x.cell(1, 38);
        return x;
    }

    private static void dueStory(EdgesFit x, int land, int cost, String places) {
        due("26 cost for " + places, x.story(land, 0), cost);
        for (int age = 0; age < 10; age++) {
            due("26 v at age " + age + " for " + places, x.story(land, 10 + age), Character.digit(places.charAt(age), 16));
        }
    }

    private static void stories() {
        EdgesFit x = two();
        dueStory(x, 0, 0, "0000000000");
        x.claim(0, 1, 4, true, 20);
        dueStory(x, 0, 5, "0013555555");
        dueStory(x, 1, 0, "0000000000");
        x.speed(1);
        dueStory(x, 0, 20, "0000000000");
        x.speed(7);
        dueStory(x, 0, 5, "0000555555");
        x.claim(0, 1, 4, true, 1);
        x.claim(0, 1, 5, false, 7);
        dueStory(x, 0, 6, "0000544444");
        x.speed(0);
        dueStory(x, 0, 21, "0000000000");
        x.claim(0, 1, 0, true, 99);
        dueStory(x, 0, 120, "0000000000");
        x.claim(0, 1, 0, false, 98);
        dueStory(x, 0, 120, "0000000000");
        due("26 story(6, 0)", x.story(6, 0), EdgesFit.UNKNOWN);
        due("26 story(-1, 5)", x.story(-1, 5), EdgesFit.UNKNOWN);
        due("26 what 1", x.story(0, 1), EdgesFit.OUTSIDE);
        due("26 what 9", x.story(0, 9), EdgesFit.OUTSIDE);
        due("26 what 20", x.story(0, 20), EdgesFit.OUTSIDE);
        due("26 what -1", x.story(0, -1), EdgesFit.OUTSIDE);
        due("26 a great what", x.story(0, Integer.MIN_VALUE), EdgesFit.OUTSIDE);
        due("26 a great what", x.story(0, Integer.MAX_VALUE), EdgesFit.OUTSIDE);
    }

    private static void likeStories() {
        EdgesFit x = two();
        x.claim(1, 0, 9, true, 50);
        dueStory(x, 1, 5, "0000000ecb");
        x.speed(7);
        dueStory(x, 1, 5, "000000000b");
        EdgesFit y = two();
        y.claim(0, 1, 3, true, 5);
        dueStory(y, 0, 5, "0000000000");
        EdgesFit w = new EdgesFit();
        w.cell(0, 32);
        w.cell(1, 33);
        w.claim(0, 1, 5, false, 9);
        w.claim(0, 1, 9, true, 9);
        dueStory(w, 0, 2, "00000f0000");
        EdgesFit z = new EdgesFit();
        z.cell(0, 32);
        z.cell(1, 40);
        z.claim(0, 1, 1, true, 50);
        z.speed(7);
        dueStory(z, 0, 7, "0777777777");
        z.claim(0, 1, 3, false, 50);
        dueStory(z, 0, 8, "0766666666");
    }

    private static void overlaps() {
        EdgesFit x = new EdgesFit();
        x.run(0, 2, 0, 2);
        x.run(1, 2, 4, 1);
        x.claim(0, 1, 1, true, 50);
        x.speed(7);
        dueStory(x, 0, 2, "0222222222");
        x.speed(2);
        x.claim(0, 1, 2, false, 30);
        dueStory(x, 0, 3, "0211111111");
        // Where they overlap they neither lie side by side nor do they not.
        due("27 overlap, claimed side by side", x.judge(0, 0x2222222230L), EdgesFit.NONE);
        x.speed(3);
        due("27 overlap, claimed side by side", x.judge(0, 0x1111111130L), 50 + 3 + 2);
        due("27 overlap, claimed apart", x.judge(0, 0x3333333320L), 30 + 3);
        due("27 touch, claimed apart", x.judge(0, 0x2222222220L), 30 + 2);
    }

    private static void judged() {
        EdgesFit x = two();
        due("27 at home", x.judge(0, 0), 0);
        x.claim(0, 1, 4, true, 20);
        x.claim(0, 1, 0, true, 3);
        x.claim(0, 1, 9, false, 4);
        x.claim(1, 0, 4, true, 60);
        due("27 at home", x.judge(0, 0), 23);
        due("27 the other land", x.judge(1, 0), 60);
        EdgesFit y = new EdgesFit();
        y.cell(0, 32);
        y.cell(1, 34);
        y.claim(0, 1, 0, false, 9);
        due("27 v is 0 at age 0", y.judge(0, 0), 0);
        y.claim(0, 1, 0, true, 8);
        due("27 v is 0 at age 0", y.judge(0, 0x1111111110L), 8 + 1);
        due("27 side by side at age 4", x.judge(0, 0x5555553100L), 3 + 4 + 5);
        due("27 back at age 9", x.judge(0, 0x3555553100L), 3 + 5 + 2);
        due("27 the shorter way around", x.judge(0, 0xf000000000L), 23 + 1);
        due("27 around and back", x.judge(0, 0x1f00000000L), 23 + 3);
        due("27 too fast", x.judge(0, 0x3000000000L), EdgesFit.NONE);
        due("27 too fast the other way", x.judge(0, 0xd000000000L), EdgesFit.NONE);
        due("27 not at 0 at age 0", x.judge(0, 0x1111111111L), EdgesFit.NONE);
        x.speed(7);
        due("27 not too fast", x.judge(0, 0x9000000000L), 23 + 7);
        due("27 half around is always too fast", x.judge(0, 0x8000000000L), EdgesFit.NONE);
        x.speed(0);
        due("27 any step is too fast", x.judge(0, 0x1000000000L), EdgesFit.NONE);
        due("27 at rest", x.judge(0, 0), 23);
        due("27 land 6", x.judge(6, 0), EdgesFit.UNKNOWN);
        due("27 land -1", x.judge(-1, -1), EdgesFit.UNKNOWN);
        due("27 below 0", x.judge(0, -1), EdgesFit.OUTSIDE);
        due("27 below 0", x.judge(0, Long.MIN_VALUE), EdgesFit.OUTSIDE);
        due("27 eleven figures", x.judge(0, 1L << 40), EdgesFit.OUTSIDE);
        due("27 many figures", x.judge(0, Long.MAX_VALUE), EdgesFit.OUTSIDE);
        due("27 ten figures", x.judge(0, (1L << 40) - 1), EdgesFit.NONE);
    }
}
