/** Promises 14 to 23: the page, laws, beasts, crossings. */
final class LawsTest {
    private static final Check CHECK = new Check();

    private static void due(String call, long got, long want) {
        CHECK.due(call, got, want);
    }

    public static void main(String[] args) {
        letters();
        blank();
        faults();
        laws();
        strikes();
        distances();
        beasts();
        conditions();
        crossings();
        spreads();
        byWay();
        unlike();
        CHECK.end();
    }

    private static void letters() {
        EdgesFit x = new EdgesFit();
        due("14 nothing", x.letters(0), 0);
        due("14 one", x.letters('J'), 1);
        due("14 eight", x.letters(Check.packed(":1?d=1&e")), 9);
        due("14 the lowest byte first", x.fault(), 9);
        due("14 codes 1 and 126", x.letters(126 << 8 | 1), 11);
        CHECK.refused(x, "14 code 127", () -> x.letters(127), EdgesFit.OUTSIDE);
        CHECK.refused(x, "14 code 128", () -> x.letters(128L << 8 | 'J'), EdgesFit.OUTSIDE);
        CHECK.refused(x, "14 code 255 as the eighth", () -> x.letters(-1L << 56), EdgesFit.OUTSIDE);
        CHECK.refused(x, "14 all codes 255", () -> x.letters(-1), EdgesFit.OUTSIDE);
        CHECK.refused(x, "14 one behind a 0", () -> x.letters('J' << 8), EdgesFit.OUTSIDE);
        CHECK.refused(x, "14 one behind two 0", () -> x.letters('J' << 24 | 'J'), EdgesFit.OUTSIDE);
        CHECK.refused(x, "14 the eighth behind a 0", () -> x.letters((long) 'J' << 56 | 'J'), EdgesFit.OUTSIDE);
        for (int i = 0; i < 4; i++) {
            x.letters(Check.packed("12345678"));
        }
        CHECK.refused(x, "14 51 letters", () -> x.letters(Check.packed("12345678")), EdgesFit.FULL);
        CHECK.refused(x, "14 51 letters, wrong ones", () -> x.letters(-1), EdgesFit.OUTSIDE);
        due("14 50 letters", x.letters(Check.packed("1234567")), 50);
        due("14 nothing behind 50", x.letters(0), 50);
        CHECK.refused(x, "14 one behind 50", () -> x.letters('1'), EdgesFit.FULL);
    }

    private static void blank() {
        EdgesFit x = new EdgesFit();
        due("15 an empty page", x.blank(), 0);
        Check.write(x, "J:10?d");
        due("15 a page", x.blank(), 6);
        due("15 none is left", x.count(6), 0);
        due("15 none is left", x.blank(), 0);
    }

    private static void fault(String text, int place) {
        EdgesFit x = new EdgesFit();
        Check.write(x, text);
        due("16 fault of " + text, x.fault(), place);
        due("16 the page stays", x.count(6), text.length());
    }

    private static void faults() {
        fault("", 0);
        fault("J", 1);
        fault("j", 0);
        fault("X:1", 0);
        fault("J1", 1);
        fault("J::", 2);
        fault("J:?", 2);
        fault("B:1", 3);
        fault("S:12", 4);
        fault("C:123", 4);
        fault("C:1:", 3);
        fault("C:12&", 4);
        fault("C:1?", 4);
        fault("C:12?", 5);
        fault("C:12?!!!!", 9);
        fault("C:12?1", 5);
        fault("C:1?x", 4);
        fault("C:1?!", 5);
        fault("C:1?!&", 5);
        fault("C:1?dd", 5);
        fault("C:1?d!", 5);
        fault("C:1?d<", 6);
        fault("C:1?d<=", 6);
        fault("C:1?e=9", 7);
        fault("C:1?k>99", 8);
        fault("C:1?k>999", 8);
        fault("C:1?k>9?", 7);
        fault("C:1?k>9&", 8);
        fault("C:1?k>9||", 8);
        fault("C:1?k>9|!d<1&", 13);
        fault("C:1?k>9|!d<1&&x", 13);
        fault("C:1?d<1&d<1&d<1&d<1&d<1&d<1&d<1&d<1&d<1&d<1&d<1&d<", 50);
        fault("C:1?d<1&d<1&d<1&d<1&d<1&d<1&d<1&d<1&d<1&d<1&d<1&dd", 49);
    }

    private static void laws() {
        EdgesFit x = new EdgesFit();
        CHECK.refused(x, "17 an empty page", () -> x.law(0), EdgesFit.STATE);
        for (String text : new String[] {"J", "J:", "J:1?", "J:1?d", "J:1?d<", "J:1?!", "J:1?d<1&", "J:1?d<1|", "J:111"}) {
            Check.write(x, text);
            CHECK.refused(x, "17 law of " + text, () -> x.law(0), EdgesFit.STATE);
            x.blank();
        }
        Check.write(x, "J:1");
        CHECK.refused(x, "17 law(2)", () -> x.law(2), EdgesFit.UNKNOWN);
        CHECK.refused(x, "17 law(-1)", () -> x.law(-1), EdgesFit.UNKNOWN);
        due("17 law(0)", x.law(0), 1);
        due("17 the page is empty then", x.count(6), 0);
        CHECK.refused(x, "17 nothing to read", () -> x.law(0), EdgesFit.STATE);
        CHECK.refused(x, "17 nothing to read, by nobody", () -> x.law(2), EdgesFit.UNKNOWN);
        String[] texts = {"B:00", "S:99", "C:1?d<1", "J:1?d<12", "J:1?!!k=1", "J:1?d<1&e=2|k>3", "C:1?!d>10|!!e<1&k=12"};
        for (int i = 0; i < texts.length; i++) {
            due("17 law of " + texts[i], Check.tell(x, 0, texts[i]), i + 2);
        }
        Check.write(x, "J:1");
        CHECK.refused(x, "17 the ninth", () -> x.law(0), EdgesFit.FULL);
        due("17 the other holder's first", x.law(1), 1);
        CHECK.refused(x, "17 no law behind eight", () -> x.law(0), EdgesFit.STATE);
        due("17 count", x.count(2), 8);
        due("17 count", x.count(3), 1);
    }

    private static void strikes() {
        EdgesFit x = new EdgesFit();
        CHECK.refused(x, "18 none", () -> x.strike(0), EdgesFit.STATE);
        CHECK.refused(x, "18 strike(2)", () -> x.strike(2), EdgesFit.UNKNOWN);
        CHECK.refused(x, "18 strike(-1)", () -> x.strike(-1), EdgesFit.UNKNOWN);
        x.beast(3, 0);
        Check.tell(x, 0, "C:5");
        Check.tell(x, 0, "C:7");
        Check.tell(x, 1, "C:9");
        due("18 the last law counts", x.spread(0, 0, 0), 7);
        due("18 strike(0)", x.strike(0), 1);
        due("18 the first one counts again", x.spread(0, 0, 0), 5);
        due("18 strike(0)", x.strike(0), 0);
        due("18 no law is left", x.spread(0, 0, 0), EdgesFit.NONE);
        due("18 none is left", x.strike(0), EdgesFit.STATE);
        due("18 the other holder keeps one", x.spread(1, 0, 0), 9);
        Check.tell(x, 0, "C:1?d>1&e=0");
        x.strike(0);
        Check.tell(x, 0, "C:2");
        due("18 nothing of a struck law is left", x.crossing(0, 0, 0, 1, 0), 2);
    }

    private static void distances() {
        EdgesFit x = new EdgesFit();
        due("19 both have none", x.distance(0, 1), 99);
        x.cell(0, 0);
        due("19 one has none", x.distance(0, 1), 99);
        due("19 one has none", x.distance(1, 0), 99);
        x.cell(1, 127);
        due("19 rows, and the shorter way around", x.distance(0, 1), 8);
        x.cell(1, 120);
        due("19 the least", x.distance(0, 1), 8);
        x.cell(1, 127 - 32);
        due("19 a nearer cell", x.distance(1, 0), 6);
        x.cell(-1, 127 - 32);
        due("19 it is gone", x.distance(1, 0), 8);
        x.cell(2, 8);
        due("19 half around", x.distance(0, 2), 8);
        x.cell(3, 16);
        due("19 one row", x.distance(0, 3), 1);
        x.cell(4, 15);
        due("19 one column around the ring", x.distance(4, 0), 1);
        due("19 askew", x.distance(3, 4), 2);
        x.cell(0, 64);
        due("19 farthest: one row off", x.distance(2, 0), 8);
        EdgesFit y = new EdgesFit();
        y.cell(0, 83);
        y.cell(1, 99);
        due("19 rows 5 and 6", y.distance(0, 1), 1);
        x.run(5, 0, 9, 1);
        due("19 a run", x.distance(5, 2), 1);
        due("19 distance(0, 0)", x.distance(0, 0), EdgesFit.UNKNOWN);
        due("19 distance(6, 0)", x.distance(6, 0), EdgesFit.UNKNOWN);
        due("19 distance(0, 6)", x.distance(0, 6), EdgesFit.UNKNOWN);
        due("19 distance(-1, 0)", x.distance(-1, 0), EdgesFit.UNKNOWN);
        due("19 distance(0, -1)", x.distance(0, -1), EdgesFit.UNKNOWN);
    }

    private static void beasts() {
        EdgesFit x = new EdgesFit();
        CHECK.refused(x, "20 beast(0, 0)", () -> x.beast(0, 0), EdgesFit.OUTSIDE);
        CHECK.refused(x, "20 beast(64, 0)", () -> x.beast(64, 0), EdgesFit.OUTSIDE);
        CHECK.refused(x, "20 beast(-1, 0)", () -> x.beast(-1, 0), EdgesFit.OUTSIDE);
        CHECK.refused(x, "20 beast(1, 10)", () -> x.beast(1, 10), EdgesFit.OUTSIDE);
        CHECK.refused(x, "20 beast(1, -1)", () -> x.beast(1, -1), EdgesFit.OUTSIDE);
        int[] sets = {1, 63, 2, 3, 4, 5, 6, 7};
        for (int i = 0; i < 8; i++) {
            due("20 beast " + i, x.beast(sets[i], i + 2), i);
        }
        due("20 count", x.count(4), 8);
        CHECK.refused(x, "20 the ninth", () -> x.beast(1, 0), EdgesFit.FULL);
        CHECK.refused(x, "20 the ninth, outside", () -> x.beast(64, 0), EdgesFit.OUTSIDE);
    }

    /** Lands 0 and 1 are 4 apart; the beast is of age 6 and lives in 3 lands. */
    private static void holds(String condition, boolean so) {
        EdgesFit x = new EdgesFit();
        x.cell(0, 0);
        x.cell(1, 4);
        x.beast(7, 6);
        Check.tell(x, 0, "S:17?" + condition);
        due("21 S:17?" + condition, x.crossing(0, 0, 0, 1, 0), so ? 17 : EdgesFit.NONE);
    }

    private static void conditions() {
        holds("d=4", true);
        holds("d=04", true);
        holds("d=5", false);
        holds("d<5", true);
        holds("d<4", false);
        holds("d>3", true);
        holds("d>4", false);
        holds("e=6", true);
        holds("e>6", false);
        holds("e<60", true);
        holds("k=3", true);
        holds("k<3", false);
        holds("k>2", true);
        holds("!k=3", false);
        holds("!!k=3", true);
        holds("!!!k=3", false);
        holds("!k=2", true);
        holds("d=4&e=6", true);
        holds("d=4&e=5", false);
        holds("d=5&e=6", false);
        holds("d=5|e=6", true);
        holds("d=4|e=5", true);
        holds("d=5|e=5", false);
        holds("d=4|e=5&k=4", true);
        holds("d=5&e=6|k=3", true);
        holds("d=5&e=6|k=4", false);
        holds("d=5|e=6&k=4", false);
        holds("d=5|e=6&k=3", true);
        holds("!d=4&e=5|k=4", false);
        holds("!d=5&e=6", true);
        holds("!d=4|e=6", true);
        holds("d=5|d=5|d=5|d=5|d=5|d=5|d=5|d=5|d=5|d=5|d=4", true);
        holds("d=5|d=5|d=5|d=5|d=5|d=5|d=5|d=5|d=5|d=5|d=5", false);
        holds("d=4&d=4&d=4&d=4&d=4&d=4&d=4&d=4&d=4&d=4&d=40", false);
        holds("!!!!!!!!!!!!!!!!!!!!!!!!!!!!!!!!!!!!!!!!!!d=4", true);
    }

    private static void crossings() {
        EdgesFit x = new EdgesFit();
        x.cell(0, 0);
        x.cell(1, 1);
        x.cell(2, 3);
        due("21 beast 0 is none", x.crossing(0, 0, 0, 1, 0), EdgesFit.UNKNOWN);
        x.beast(3, 4);
        due("21 without a law", x.crossing(0, 0, 0, 1, 0), EdgesFit.NONE);
        due("21 without a law", x.crossing(0, 0, 0, 1, 1), EdgesFit.NONE);
        Check.tell(x, 0, "J:5");
        due("21 joined at distance 1", x.crossing(0, 0, 0, 1, 0), 5);
        due("21 joined is 0", x.crossing(0, 0, 1, 0, 1), 0);
        due("21 not joined at distance 2", x.crossing(0, 0, 1, 2, 0), EdgesFit.NONE);
        due("21 not joined at distance 2", x.crossing(0, 0, 1, 2, 1), EdgesFit.NONE);
        Check.tell(x, 0, "C:5");
        due("21 of like ones the first way", x.crossing(0, 0, 0, 1, 1), 0);
        due("21 chance is 3", x.crossing(0, 0, 0, 2, 1), 3);
        Check.tell(x, 0, "S:5");
        due("21 steps ahead of chance", x.crossing(0, 0, 0, 2, 1), 2);
        Check.tell(x, 0, "B:4");
        due("21 the cheapest", x.crossing(0, 0, 0, 1, 1), 1);
        due("21 the cheapest", x.crossing(0, 0, 0, 1, 0), 4);
        Check.tell(x, 0, "B:90");
        due("21 the law told last, though it is dearer", x.crossing(0, 0, 0, 2, 1), 2);
        Check.tell(x, 0, "S:91?d=2");
        due("21 told last whose condition holds", x.crossing(0, 0, 1, 2, 0), 5);
        due("21 told last whose condition holds", x.crossing(0, 0, 1, 2, 1), 3);
        due("21 the condition does not hold here", x.crossing(0, 0, 0, 2, 1), 2);
        Check.tell(x, 0, "C:00");
        due("21 for nothing", x.crossing(0, 0, 0, 1, 0), 0);
        due("21 the other holder has no law", x.crossing(1, 0, 0, 1, 0), EdgesFit.NONE);
        due("21 lands without cells", x.crossing(0, 0, 4, 5, 0), 0);
        due("21 holder 2", x.crossing(2, 0, 0, 1, 0), EdgesFit.UNKNOWN);
        due("21 holder -1", x.crossing(-1, 0, 0, 1, 0), EdgesFit.UNKNOWN);
        due("21 beast 1", x.crossing(0, 1, 0, 1, 2), EdgesFit.UNKNOWN);
        due("21 beast -1", x.crossing(0, -1, 0, 1, 0), EdgesFit.UNKNOWN);
        due("21 land 6", x.crossing(0, 0, 6, 1, 0), EdgesFit.UNKNOWN);
        due("21 land -1", x.crossing(0, 0, 0, -1, 0), EdgesFit.UNKNOWN);
        due("21 the same land", x.crossing(0, 0, 1, 1, 2), EdgesFit.UNKNOWN);
        due("21 what 2", x.crossing(0, 0, 0, 1, 2), EdgesFit.OUTSIDE);
        due("21 what -1", x.crossing(0, 0, 0, 1, -1), EdgesFit.OUTSIDE);
    }

    /** Lands 0 to 4 in a row of cells, two columns apart; land 5 is far off. */
    private static EdgesFit inARow() {
        EdgesFit x = new EdgesFit();
        for (int land = 0; land < 5; land++) {
            x.cell(land, 2 * land);
        }
        x.cell(5, 112 + 12);
        return x;
    }

    private static void spreads() {
        EdgesFit x = inARow();
        x.beast(1, 0);
        x.beast(3, 0);
        x.beast(7, 0);
        x.beast(5, 0);
        x.beast(63, 0);
        due("22 one land, no law: cost", x.spread(0, 0, 0), 0);
        due("22 one land, no law: by way of", x.spread(0, 0, 1), 0);
        due("22 two lands, no law: cost", x.spread(0, 1, 0), EdgesFit.NONE);
        due("22 two lands, no law: by way of", x.spread(0, 1, 1), EdgesFit.NONE);
        Check.tell(x, 0, "B:3?d=2");
        due("22 two lands", x.spread(0, 1, 0), 3);
        due("22 three lands: a tree", x.spread(0, 2, 0), 6);
        due("22 over a land between", x.spread(0, 3, 0), 6);
        due("22 over a land between", x.spread(0, 3, 1), 2);
        due("22 one cannot be joined", x.spread(0, 4, 0), EdgesFit.NONE);
        due("22 one cannot be joined", x.spread(0, 4, 1), EdgesFit.NONE);
        Check.tell(x, 0, "C:50");
        due("22 all six", x.spread(0, 4, 0), 62);
        due("22 all six", x.spread(0, 4, 1), 0);
        due("22 holder 2", x.spread(2, 0, 0), EdgesFit.UNKNOWN);
        due("22 holder -1", x.spread(-1, 0, 0), EdgesFit.UNKNOWN);
        due("22 beast 5", x.spread(0, 5, 0), EdgesFit.UNKNOWN);
        due("22 beast -1", x.spread(0, -1, 2), EdgesFit.UNKNOWN);
        due("22 what 2", x.spread(0, 0, 2), EdgesFit.OUTSIDE);
        due("22 what -1", x.spread(0, 0, -1), EdgesFit.OUTSIDE);
    }

    private static void byWay() {
        EdgesFit x = inARow();
        x.beast(17, 0);
        Check.tell(x, 0, "B:3?d=2");
        due("22 over three", x.spread(0, 0, 0), 12);
        due("22 over three", x.spread(0, 0, 1), 14);
        Check.tell(x, 0, "S:6?d=4");
        due("22 over fewest", x.spread(0, 0, 0), 12);
        due("22 over fewest", x.spread(0, 0, 1), 4);
        Check.tell(x, 0, "S:9?d=6");
        due("22 of like ones the fewest, then least bits", x.spread(0, 0, 1), 2);
        Check.tell(x, 0, "C:12");
        due("22 over none", x.spread(0, 0, 1), 0);
        Check.tell(x, 0, "C:11");
        due("22 straight, cheaper", x.spread(0, 0, 0), 11);
        Check.tell(x, 0, "C:90");
        due("22 a dearer way over fewer is no way", x.spread(0, 0, 0), 12);
        Check.tell(x, 0, "C:00");
        due("22 for nothing over none", x.spread(0, 0, 1), 0);
        EdgesFit y = new EdgesFit();
        y.cell(5, 0);
        y.cell(0, 1);
        y.cell(1, 15);
        y.cell(2, 16);
        y.beast(7, 3);
        Check.tell(y, 1, "J:1?k=3&e=3");
        Check.tell(y, 1, "B:2");
        due("22 a star over a further land", y.spread(1, 0, 0), 3);
        due("22 a star over a further land", y.spread(1, 0, 1), 32);
        EdgesFit z = inARow();
        z.beast(20, 0);
        z.beast(12, 0);
        Check.tell(z, 0, "S:9?d=4");
        Check.tell(z, 0, "B:3?d=2");
        Check.tell(z, 0, "C:20");
        due("22 cheaper over a further one than straight", z.spread(0, 0, 0), 6);
        due("22 cheaper over a further one than straight", z.spread(0, 0, 1), 8);
        due("22 straight", z.spread(0, 1, 1), 0);
        EdgesFit w = new EdgesFit();
        w.cell(0, 0);
        w.cell(3, 1);
        w.cell(4, 15);
        w.beast(24, 0);
        Check.tell(w, 0, "J:1");
        due("22 over land 0", w.spread(0, 0, 0), 2);
        due("22 over land 0", w.spread(0, 0, 1), 1);
    }

    private static void unlike() {
        EdgesFit x = inARow();
        due("23 no beast: parts", x.unlike(0), 0);
        due("23 no beast: most", x.unlike(1), EdgesFit.NONE);
        x.beast(1, 0);
        x.beast(3, 0);
        due("23 both cannot be", x.unlike(0), 0);
        due("23 both cannot be", x.unlike(1), EdgesFit.NONE);
        Check.tell(x, 0, "C:9");
        Check.tell(x, 1, "C:9");
        due("23 both cost alike", x.unlike(0), 0);
        Check.tell(x, 1, "C:7?k=2");
        Check.tell(x, 1, "C:13?k=3");
        due("23 one is unlike", x.unlike(0), 1);
        due("23 that one", x.unlike(1), 1);
        x.beast(6, 1);
        due("23 of like ones the least", x.unlike(1), 1);
        x.beast(7, 1);
        due("23 a dearer one is unlike, too", x.unlike(0), 3);
        due("23 the most unlike", x.unlike(1), 3);
        x.strike(0);
        due("23 none counts as 999: parts", x.unlike(0), 3);
        due("23 none counts as 999: 992 and 973", x.unlike(1), 1);
        EdgesFit y = inARow();
        y.beast(3, 0);
        Check.tell(y, 0, "C:9");
        Check.tell(y, 1, "C:8");
        due("23 beast 0, unlike by 1", y.unlike(0), 1);
        due("23 beast 0, unlike by 1", y.unlike(1), 0);
        due("23 what 2", x.unlike(2), EdgesFit.OUTSIDE);
        due("23 what -1", x.unlike(-1), EdgesFit.OUTSIDE);
    }
}
