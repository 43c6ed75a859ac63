/** The sentences on stories that name a boundary case: promises 24 to 27. */
final class StorySentencesTest {
    private static final int NONE = EdgesFit.NONE, UNKNOWN = EdgesFit.UNKNOWN, OUTSIDE = EdgesFit.OUTSIDE, FULL = EdgesFit.FULL;
    private static final int[] FAR = {Integer.MIN_VALUE, Integer.MIN_VALUE + 1, Integer.MAX_VALUE - 1, Integer.MAX_VALUE};
    private static final Sentences BY = new Sentences();

    private static void due(String call, long got, long want) {
        BY.due(call, got, want);
    }

    public static void main(String[] args) {
        agesAndPlaces();
        speedOfToldStories();
        speedOfTheStory();
        claimsAtMost();
        sideBySideOrNot();
        costsOfTheFirstLand();
        likeStories();
        speedBounds();
        claimRefused();
        storyAsked();
        figures();
        toldTooFast();
        toldRefused();
        BY.end(24, 27);
    }

    private static int ring(int a, int b) {
        int apart = Math.abs(a - b) % 16;
        return Math.min(apart, 16 - apart);
    }

    /** Land 0 has a cell in column 0 of row 2, land 1 in the column told. */
    private static EdgesFit two(int column) {
        EdgesFit x = new EdgesFit();
        x.cell(0, 32);
        x.cell(1, 32 + column);
        return x;
    }

    private static void dueStory(EdgesFit x, int land, int cost, String places) {
        due("cost of " + places, x.story(land, 0), cost);
        for (int age = 0; age < 10; age++) {
            due("v of " + places + " at age " + age, x.story(land, 10 + age), Character.digit(places.charAt(age), 16));
        }
        due("judged", x.judge(land, Long.parseLong(new StringBuilder(places).reverse().toString(), 16)), cost);
    }

    private static void agesAndPlaces() {
        BY.of(Sentences.TERMS, "A STORY of a LAND by AGES 0 to 9 (AGE 0: at HOME, v 0): at each AGE a v (0 to 15; u stays 0).");
        for (int land = 0; land < 6; land++) {
            dueStory(new EdgesFit(), land, 0, "0000000000");
        }
        EdgesFit x = two(3);
        x.claim(0, 1, 0, true, 99);
        dueStory(x, 0, 99, "0000000000");
        due("at v 2 at age 0", x.judge(0, 0x2222222222L), NONE);
        x.claim(0, 1, 9, true, 99);
        dueStory(x, 0, 99 + 2, "0000000002");
        EdgesFit west = two(14);
        west.claim(0, 1, 9, true, 99);
        dueStory(west, 0, 1, "000000000f");
        EdgesFit south = new EdgesFit();
        south.cell(0, 32);
        south.cell(1, 49);
        south.claim(0, 1, 5, true, 99);
        dueStory(south, 0, 99, "0000000000");
        south.cell(1, 33);
        dueStory(south, 0, 0, "0000000000");
    }

    private static void speedOfToldStories() {
        BY.of(Sentences.TERMS, "From an AGE to the next one it goes at most SPEED (0 to 7; 2 at first) COLUMNS, either way around.");
        for (int step = 0; step < 16; step++) {
            int far = ring(0, step);
            due("2 at first: by " + step, new EdgesFit().judge(0, (long) step << 36), far <= 2 ? far : NONE);
        }
        for (int speed = 0; speed <= 7; speed++) {
            for (int from = 0; from <= speed; from++) {
                for (int to = 0; to < 16; to++) {
                    EdgesFit x = new EdgesFit();
                    x.speed(speed);
                    int by = ring(from, to);
                    for (int age = 2; age <= 9; age++) {
                        long told = 0;
                        for (int i = 1; i <= 9; i++) {
                            told |= (long) (i < age ? from : to) << 4 * i;
                        }
                        String way = "speed " + speed + ", " + from + " to " + to + " at age " + age;
                        due(way, x.judge(0, told), by <= speed ? from + by : NONE);
                    }
                }
            }
        }
    }

    private static void speedOfTheStory() {
        BY.of(Sentences.TERMS, "it goes at most SPEED (0 to 7; 2 at first) COLUMNS, either way around.");
        for (int column = 1; column < 16; column++) {
            for (int speed = 0; speed <= 7; speed++) {
                EdgesFit x = two(column);
                x.speed(speed);
                x.claim(0, 1, 1, true, 99);
                int west = column - 1;
                int east = (column + 1) % 16;
                int v = ring(0, west) < ring(0, east) || ring(0, west) == ring(0, east) && west < east ? west : east;
                int gone = ring(0, v);
                String of = "to column " + column + " by speed " + speed;
                due("cost " + of, x.story(0, 0), gone <= speed ? gone : 99);
                due("at age 1 " + of, x.story(0, 11), gone <= speed ? v : 0);
                due("at age 9 " + of, x.story(0, 19), gone <= speed ? v : 0);
            }
        }
        EdgesFit half = two(9);
        half.claim(0, 1, 4, true, 99);
        dueStory(half, 0, 6, "00ecaaaaaa");
        half.speed(1);
        dueStory(half, 0, 99, "0000000000");
    }

    private static void claimsAtMost() {
        BY.of(Sentences.TERMS, "CLAIMS (12 at most, numbered)");
        EdgesFit x = two(3);
        for (int i = 0; i < 12; i++) {
            due("claim " + i, x.claim(0, 1, 9, true, 1), i);
        }
        due("the thirteenth", x.claim(0, 1, 9, true, 1), FULL);
        due("twelve", x.count(5), 12);
        due("all count", x.judge(0, 0), 12);
        BY.of(Sentences.TERMS, "of a WEIGHT (1 to 99).");
        for (int weight = 1; weight <= 99; weight++) {
            EdgesFit y = two(3);
            due("weight " + weight, y.claim(0, 1, 9, true, weight), 0);
            due("judged", y.judge(0, 0), weight);
        }
        due("weight 0", two(3).claim(0, 1, 9, true, 0), OUTSIDE);
        due("weight 100", two(3).claim(0, 1, 9, true, 100), OUTSIDE);
    }

    /** A told story that goes to v by the shorter way in two steps, and stays. */
    private static long goingTo(int v) {
        int half = v <= 8 ? v / 2 : (16 - (16 - v) / 2) % 16;
        long told = (long) half << 4;
        for (int age = 2; age <= 9; age++) {
            told |= (long) v << 4 * age;
        }
        return told;
    }

    private static void sideBySideOrNot() {
        BY.of(Sentences.TERMS, "lie side by side (TOUCH is 1 at least and OVERLAP 0), or do not (OVERLAP 0 and no TOUCH)");
        for (int from = 0; from < 16; from++) {
            EdgesFit x = new EdgesFit();
            x.run(0, 4, from, 2);
            x.run(1, 4, (from + 4) % 16, 2);
            x.claim(0, 1, 9, true, 40);
            EdgesFit y = new EdgesFit();
            y.run(0, 4, from, 2);
            y.run(1, 4, (from + 4) % 16, 2);
            y.claim(0, 1, 9, false, 40);
            x.speed(7);
            y.speed(7);
            for (int v = 0; v < 16; v++) {
                boolean touch = v == 2 || v == 6;
                boolean overlap = v > 2 && v < 6;
                String at = "from " + from + " by " + v;
                due("side by side, " + at, x.judge(0, goingTo(v)), ring(0, v) + (touch ? 0 : 40));
                due("not, " + at, y.judge(0, goingTo(v)), ring(0, v) + (touch || overlap ? 40 : 0));
            }
        }
        EdgesFit many = new EdgesFit();
        many.run(0, 4, 0, 2);
        many.run(0, 5, 0, 1);
        many.run(1, 4, 3, 1);
        many.run(1, 5, 2, 1);
        many.claim(0, 1, 1, true, 50);
        many.claim(0, 1, 2, false, 60);
        due("touch in both rows", many.judge(0, 0x1111111110L), 60 + 1);
        due("touch in one row, overlap in the other", many.judge(0, 0x2222222220L), 50 + 60 + 2);
        BY.of(Sentences.TERMS, "at an AGE a LAND and another one (at HOME)");
        EdgesFit none = new EdgesFit();
        none.claim(0, 1, 3, true, 7);
        none.claim(0, 1, 4, false, 9);
        due("neither has cells: they do not lie side by side", none.judge(0, 0), 7);
        EdgesFit home = two(3);
        home.claim(0, 1, 5, true, 9);
        home.claim(1, 0, 1, true, 9);
        due("the other one stays at home", home.story(0, 15), 2);
        due("as does this one for it", home.story(1, 11), 14);
    }

    private static void costsOfTheFirstLand() {
        BY.of(Sentences.TERMS, "COST of a STORY: WEIGHTS of all CLAIMS on that LAND (as the first one) that do not hold, and 1 for each COLUMN gone.");
        EdgesFit x = two(8);
        for (int i = 0; i < 6; i++) {
            x.claim(0, 1, i, true, 99);
            x.claim(1, 0, i, true, 98);
        }
        x.speed(0);
        dueStory(x, 0, 6 * 99, "0000000000");
        dueStory(x, 1, 6 * 98, "0000000000");
        dueStory(x, 2, 0, "0000000000");
        EdgesFit most = two(8);
        for (int i = 0; i < 12; i++) {
            most.claim(0, 1, i % 10, true, 99);
        }
        most.speed(0);
        dueStory(most, 0, 12 * 99, "0000000000");
        most.speed(7);
        due("the most columns", most.judge(0, 0x7070707070L), 9 * 7 + 6 * 99);
        EdgesFit both = two(3);
        both.claim(0, 1, 5, true, 30);
        both.claim(0, 1, 5, false, 30);
        due("two that do not go together", both.story(0, 0), 30);
        EdgesFit third = two(3);
        third.cell(2, 39);
        third.claim(0, 1, 1, true, 50);
        third.claim(0, 2, 5, true, 50);
        dueStory(third, 0, 6, "0222466666");
    }

    private static void likeStories() {
        BY.of(Sentences.TERMS, "THE STORY: of least COST; of like ones of least v at AGE 0 (always 0), then at AGE 1, and so on.");
        EdgesFit stay = two(6);
        stay.claim(0, 1, 9, true, 5);
        dueStory(stay, 0, 5, "0000000000");
        stay.claim(0, 1, 9, true, 1);
        dueStory(stay, 0, 5, "0000000135");
        EdgesFit west = two(12);
        west.claim(0, 1, 9, true, 50);
        dueStory(west, 0, 3, "00000000ed");
        EdgesFit around = two(8);
        around.claim(0, 1, 9, true, 50);
        dueStory(around, 0, 7, "0000001357");
        EdgesFit there = two(1);
        there.claim(0, 1, 5, false, 9);
        dueStory(there, 0, 1, "00000fffff");
        there.claim(0, 1, 9, true, 9);
        dueStory(there, 0, 2, "00000f0000");
        EdgesFit back = two(2);
        back.claim(0, 1, 1, true, 9);
        back.claim(0, 1, 9, false, 9);
        dueStory(back, 0, 2, "0100000000");
        EdgesFit early = two(15);
        early.claim(0, 1, 1, false, 9);
        dueStory(early, 0, 1, "0111111111");
    }

    private static void speedBounds() {
        BY.of(24, "SPEED becomes v: what it was. OUTSIDE.");
        EdgesFit x = new EdgesFit();
        int was = 2;
        for (int v = 0; v <= 7; v++) {
            due("speed " + v, x.speed(v), was);
            was = v;
            for (int wrong : new int[] {-1, 8, Integer.MIN_VALUE, Integer.MAX_VALUE}) {
                due("speed " + wrong, x.speed(wrong), OUTSIDE);
            }
        }
        due("the last one", x.speed(0), 7);
    }

    private static void claimRefused() {
        BY.of(25, "A CLAIM: its number. UNKNOWN: land, other, or they are the same; OUTSIDE: age, weight; FULL.");
        EdgesFit x = new EdgesFit();
        due("the least numbers", x.claim(0, 1, 0, false, 1), 0);
        due("the greatest numbers", x.claim(5, 4, 9, true, 99), 1);
        for (int round = 0; round < 2; round++) {
            for (int land = 0; land < 6; land++) {
                due("the same: " + land, x.claim(land, land, 10, true, 0), UNKNOWN);
            }
            for (int wrong : new int[] {-1, 6, Integer.MIN_VALUE, Integer.MAX_VALUE}) {
                due("land " + wrong, x.claim(wrong, 0, 0, true, 1), UNKNOWN);
                due("other " + wrong, x.claim(0, wrong, 0, true, 1), UNKNOWN);
                due("land " + wrong + ", age 10", x.claim(wrong, 0, 10, true, 1), UNKNOWN);
            }
            for (int wrong : new int[] {-1, 10, Integer.MIN_VALUE, Integer.MAX_VALUE}) {
                due("age " + wrong, x.claim(0, 1, wrong, false, 1), OUTSIDE);
            }
            for (int wrong : new int[] {0, 100, -1, Integer.MIN_VALUE, Integer.MAX_VALUE}) {
                due("weight " + wrong, x.claim(0, 1, 0, false, wrong), OUTSIDE);
            }
            due("claims", x.count(5), round == 0 ? 2 : 12);
            for (int i = 2; i < 12; i++) {
                due("claim " + i, x.claim(i % 6, (i + 1) % 6, i % 10, true, i), round == 0 ? i : FULL);
            }
        }
    }

    private static void storyAsked() {
        BY.of(26, "THE STORY of a LAND: what = 0 COST, 10 and i its v at AGE i. UNKNOWN; OUTSIDE.");
        EdgesFit x = two(6);
        x.claim(0, 1, 5, true, 40);
        x.speed(1);
        dueStory(x, 0, 5, "0123455555");
        for (int what = 1; what <= 9; what++) {
            due("what " + what, x.story(0, what), OUTSIDE);
        }
        for (int what : new int[] {-1, -10, 20, 21, 110, Integer.MIN_VALUE + 9, Integer.MIN_VALUE + 10}) {
            due("what " + what, x.story(0, what), OUTSIDE);
        }
        for (int far : FAR) {
            due("what " + far, x.story(0, far), OUTSIDE);
            due("land " + far, x.story(far, 0), UNKNOWN);
        }
        due("land -1, what 9", x.story(-1, 9), UNKNOWN);
        due("land 6, what 20", x.story(6, 20), UNKNOWN);
        due("land 5, what 19", x.story(5, 19), 0);
    }

    private static void figures() {
        BY.of(27, "COST of a told STORY of a LAND: v of AGE i is the i-th figure of base 16 (AGE 0 the lowest; ten figures)");
        EdgesFit x = two(2);
        int all = 0;
        for (int age = 0; age < 10; age++) {
            x.claim(0, 1, age, true, 10 + age);
            all += 10 + age;
        }
        due("never there", x.judge(0, 0), all);
        for (int age = 1; age < 10; age++) {
            due("there at age " + age, x.judge(0, 1L << 4 * age), all - 10 - age + (age == 9 ? 1 : 2));
        }
        due("there from age 1 on", x.judge(0, 0x1111111110L), 10 + 1);
        due("beyond it", x.judge(0, 0x2222222220L), all + 2);
        due("on the other side of it", x.judge(0, 0x3333333310L), 10 + 3);
    }

    private static void toldTooFast() {
        BY.of(27, "NONE: it goes too fast, or is not at 0 at AGE 0.");
        EdgesFit x = new EdgesFit();
        x.speed(7);
        for (int v = 0; v < 16; v++) {
            long there = 0x1111111111L * v;
            due("always at " + v, x.judge(3, there), v == 0 ? 0 : NONE);
            due("at " + v + " at age 9", x.judge(3, (long) v << 36), ring(0, v) <= 7 ? ring(0, v) : NONE);
        }
        due("half around", x.judge(3, 0x8888888880L), NONE);
        due("half around in two", x.judge(3, 0x8888888810L), 8);
        due("all figures f", x.judge(3, 0xFFFFFFFFFFL), NONE);
        due("all but the lowest", x.judge(3, 0xFFFFFFFFF0L), 1);
        x.speed(0);
        due("at rest", x.judge(3, 0), 0);
        due("by 1", x.judge(3, 0x1000000000L), NONE);
        due("by 15", x.judge(3, 0xF000000000L), NONE);
    }

    private static void toldRefused() {
        BY.of(27, "UNKNOWN: land; OUTSIDE: told (below 0, or of more figures).");
        EdgesFit x = new EdgesFit();
        due("0", x.judge(0, 0), 0);
        due("the greatest of ten figures", x.judge(5, 0xFFFFFFFFFFL), NONE);
        for (int more = 40; more < 63; more++) {
            due("a bit of a further figure", x.judge(0, 1L << more), OUTSIDE);
        }
        due("-1", x.judge(0, -1), OUTSIDE);
        due("the least long", x.judge(0, Long.MIN_VALUE), OUTSIDE);
        due("the greatest long", x.judge(0, Long.MAX_VALUE), OUTSIDE);
        for (int wrong : new int[] {-1, 6, Integer.MIN_VALUE, Integer.MAX_VALUE}) {
            due("land " + wrong, x.judge(wrong, 0), UNKNOWN);
            due("land " + wrong + ", told -1", x.judge(wrong, -1), UNKNOWN);
            due("land " + wrong + ", eleven figures", x.judge(wrong, 1L << 40), UNKNOWN);
        }
    }
}
