/** The answers of an object to many calls, so that two objects can be told apart, also by what only later calls show. */
final class Witness {
    private static final int MOST = 400;

    private final EdgesFit x;
    private final long[] answers = new long[MOST];
    private int size;

    private Witness(EdgesFit x) {
        this.x = x;
    }

    /** The place of the first answer in which they differ; -1, if there is none. Both objects are used up by it. */
    static int firstDifference(EdgesFit x, EdgesFit y) {
        Witness one = new Witness(x).hear();
        Witness other = new Witness(y).hear();
        for (int i = 0; i < Math.max(one.size, other.size); i++) {
            if (one.answers[i] != other.answers[i]) {
                return i;
            }
        }
        return -1;
    }

    private void note(long answer) {
        answers[size++] = answer;
    }

    private Witness hear() {
        note(x.digest());
        lands();
        pairs();
        laws();
        stories();
        poles();
        changes();
        return this;
    }

    private void lands() {
        for (int land = 0; land < 6; land++) {
            for (int what = 0; what < 3; what++) {
                note(x.land(land, what));
            }
        }
        for (int mark = 0; mark < 8; mark++) {
            note(x.as(mark, 2));
            note(x.goesOn(0, mark));
        }
    }

    private void pairs() {
        for (int a = 0; a < 6; a++) {
            for (int b = a + 1; b < 6; b++) {
                note(x.fit(a, b, 0));
                note(x.fit(a, b, 1));
                note(x.fit(b, a, 2));
                note(x.beside(a, b, 0, 15));
                note(x.put(a, b, 0, 15, (a + b) % 6));
            }
        }
        note(x.chance(0, 1, 0, 15, 0));
        note(x.chance(0, 1, 0, 15, 1));
    }

    private void laws() {
        note(x.fault());
        crossings();
        for (int beast = 0; beast < 8; beast++) {
            note(x.spread(0, beast, 1));
            note(x.spread(1, beast, 1));
        }
        note(x.unlike(0));
        note(x.unlike(1));
    }

    private void crossings() {
        for (int a = 0; a < 5; a++) {
            for (int holder = 0; holder < 2; holder++) {
                note(x.crossing(holder, 0, a, a + 1, 0));
                note(x.crossing(holder, 1, a, a + 1, 1));
                note(x.crossing(holder, 2, a, 5 - a == a ? 5 : 5 - a, 0));
            }
        }
    }

    private void stories() {
        for (int land = 0; land < 6; land++) {
            note(x.story(land, 0));
            note(x.story(land, 13));
            note(x.story(land, 19));
            note(x.judge(land, 0x1111100000L));
        }
    }

    private void poles() {
        for (int land = -1; land < 6; land++) {
            note(x.pole(land, land, 3, 0));
            note(x.pole(land, -1, 0, 2));
        }
        note(x.mirror(7));
        note(x.ridge());
    }

    /** What the digest does not tell: the laws below the last ones, and what the page still is good for. */
    private void changes() {
        note(x.strike(0));
        note(x.strike(1));
        crossings();
        note(x.law(0));
        crossings();
        note(x.blank());
        note(x.drop());
        note(x.mark(0, 33, 1));
        note(x.cell(5, 33));
        note(x.cell(5, 34));
        note(x.run(4, 6, 12, 9));
        note(x.beast(9, 3));
        note(x.claim(3, 4, 1, true, 8));
        note(x.speed(4));
        note(x.floor(77));
        note(x.digest());
    }
}
