/** Long runs of calls, the same ones each time, on the class and on the plain model: all answers are alike. */
final class ModelTest {
    // A step makes ten calls at most, and an object is good for 512.
    private static final int RUNS = 50, LAST_STEP_FROM = 502;
    private static final Check CHECK = new Check();

    private final EdgesFit x = new EdgesFit();
    private final Plain plain = new Plain();
    private long seed;
    private int calls;

    private ModelTest(long seed) {
        this.seed = seed;
    }

    public static void main(String[] args) {
        for (int run = 1; run <= RUNS; run++) {
            ModelTest test = new ModelTest(run * 7919L);
            for (int step = 0; test.calls <= LAST_STEP_FROM; step++) {
                test.next("run " + run + " step " + step + ": ", run, step);
            }
        }
        CHECK.end();
    }

    private int below(int bound) {
        seed = seed * 6364136223846793005L + 1442695040888963407L;
        return (int) ((seed >>> 33) % bound);
    }

    /** Mostly from 'from' to 'to', now and then just outside, or far off. */
    private int about(int from, int to) {
        int kind = below(60);
        if (kind == 0) {
            return new int[] {from - 1, to + 1, Integer.MIN_VALUE, Integer.MAX_VALUE, -from - 2}[below(5)];
        }
        return from + below(to - from + 1);
    }

    private int land() {
        return about(0, 5);
    }

    private void due(String call, long got, long want) {
        calls++;
        CHECK.due(call, got, want);
    }

    private void next(String at, int run, int step) {
        // The first steps of a run build what the later ones ask about.
        int group = step < 60 ? new int[] {0, 0, 0, 1, 3, 3, 5}[below(7)] : below(8);
        switch (group) {
            case 0: lands(at, run); break;
            case 1: marks(at); break;
            case 2: fits(at); break;
            case 3: laws(at); break;
            case 4: crossings(at); break;
            case 5: stories(at); break;
            case 6: poles(at); break;
            default: told(at); break;
        }
    }

    private void lands(String at, int run) {
        int land = land(), row = about(0, 7), column = about(0, 15), many = about(1, run % 3 == 0 ? 16 : 4);
        int cell = about(0, 127), what = about(0, 2);
        switch (below(4)) {
            case 0:
                int to = about(-1, 5);
                due(at + "cell(" + to + ", " + cell + ")", x.cell(to, cell), plain.cell(to, cell));
                break;
            case 1:
                due(at + "land(" + land + ", " + what + ")", x.land(land, what), plain.land(land, what));
                break;
            default:
                due(at + "run(" + land + ", " + row + ", " + column + ", " + many + ")",
                    x.run(land, row, column, many), plain.run(land, row, column, many));
                break;
        }
    }

    private void marks(String at) {
        int a = about(0, 40), b = about(0, 40), kind = about(0, 5), n = about(0, below(2) == 0 ? 15 : 2), what = about(0, 3);
        switch (below(10)) {
            case 0: due(at + "as(" + a + ", " + kind + ")", x.as(a, kind), plain.as(a, kind)); break;
            case 1: due(at + "about(" + a + ", " + what + ")", x.about(a, what), plain.about(a, what)); break;
            case 2: due(at + "goesOn(" + a + ", " + b + ")", x.goesOn(a, b), plain.goesOn(a, b)); break;
            case 3: due(at + "drop()", x.drop(), plain.drop()); break;
            default:
                int cell = cellOfALand();
                due(at + "mark(" + kind + ", " + cell + ", " + n + ")", x.mark(kind, cell, n), plain.mark(kind, cell, n));
                break;
        }
    }

    private int cellOfALand() {
        int least = plain.land(below(6), 1);
        return below(3) == 0 || least < 0 ? about(0, 127) : least + below(3);
    }

    private void fits(String at) {
        int a = land(), b = land(), u = below(3) == 0 ? about(-7, 7) : about(-2, 2), v = about(0, 15);
        int what = about(0, 5), part = about(0, 1), of = about(0, 2);
        String place = "(" + a + ", " + b + ", " + u + ", " + v;
        switch (below(4)) {
            case 0: due(at + "put" + place + ", " + what + ")", x.put(a, b, u, v, what), plain.put(a, b, u, v, what)); break;
            case 1: due(at + "fit(" + a + ", " + b + ", " + of + ")", x.fit(a, b, of), plain.fit(a, b, of)); break;
            case 2: due(at + "chance" + place + ", " + part + ")", x.chance(a, b, u, v, part), plain.chance(a, b, u, v, part)); break;
            default: due(at + "beside" + place + ")", x.beside(a, b, u, v), plain.beside(a, b, u, v)); break;
        }
    }

    private String lawText() {
        StringBuilder text = new StringBuilder();
        text.append("JBSC".charAt(below(4))).append(':').append(below(3) == 0 ? below(100) : below(10));
        if (below(3) > 0) {
            text.append('?').append(factor());
            for (int i = below(4); i > 0; i--) {
                text.append("&|".charAt(below(2))).append(factor());
            }
        }
        if (below(8) == 0) {
            text.setCharAt(below(text.length()), "JBSC:019?!dek<=>&|x".charAt(below(19)));
        }
        if (below(8) == 0) {
            text.setLength(below(text.length()) + 1);
        }
        return text.toString();
    }

    private String factor() {
        String text = "!!".substring(below(3)) + "dek".charAt(below(3)) + "<=>".charAt(below(3));
        return text + (below(9) == 0 ? below(100) : below(10));
    }

    private void laws(String at) {
        int holder = about(0, 1), lands = about(1, 63), age = about(0, 9);
        switch (below(8)) {
            case 0: due(at + "strike(" + holder + ")", x.strike(holder), plain.strike(holder)); break;
            case 1: due(at + "beast(" + lands + ", " + age + ")", x.beast(lands, age), plain.beast(lands, age)); break;
            case 2: due(at + "blank()", x.blank(), plain.blank()); break;
            case 3:
                long w = below(2) == 0 ? (long) below(1 << 30) << 31 | below(1 << 30) : below(300);
                due(at + "letters(" + w + ")", x.letters(w), plain.letters(w));
                due(at + "fault()", x.fault(), plain.fault());
                break;
            default:
                writeLaw(at, holder);
                break;
        }
    }

    private void writeLaw(String at, int holder) {
        String text = lawText();
        if (below(4) > 0) {
            due(at + "blank()", x.blank(), plain.blank());
        }
        for (int from = 0; from < text.length(); from += 8) {
            long w = Check.packed(text.substring(from, Math.min(from + 8, text.length())));
            due(at + "letters of " + text, x.letters(w), plain.letters(w));
        }
        due(at + "fault() of " + text, x.fault(), plain.fault());
        due(at + "law(" + holder + ") of " + text, x.law(holder), plain.law(holder));
    }

    private void crossings(String at) {
        int holder = about(0, 1), beast = about(0, 7), a = land(), b = land(), what = about(0, 1);
        switch (below(4)) {
            case 0: due(at + "distance(" + a + ", " + b + ")", x.distance(a, b), plain.distance(a, b)); break;
            case 1:
                due(at + "crossing(" + holder + ", " + beast + ", " + a + ", " + b + ", " + what + ")",
                    x.crossing(holder, beast, a, b, what), plain.crossing(holder, beast, a, b, what));
                break;
            case 2:
                due(at + "spread(" + holder + ", " + beast + ", " + what + ")",
                    x.spread(holder, beast, what), plain.spread(holder, beast, what));
                break;
            default: due(at + "unlike(" + what + ")", x.unlike(what), plain.unlike(what)); break;
        }
    }

    private void stories(String at) {
        int land = land(), other = land(), age = about(0, 9), weight = about(1, below(2) == 0 ? 99 : 6), speed = about(0, 7);
        boolean beside = below(2) == 0;
        switch (below(6)) {
            case 0: due(at + "speed(" + speed + ")", x.speed(speed), plain.speed(speed)); break;
            case 1:
                due(at + "claim(" + land + ", " + other + ", " + age + ", " + beside + ", " + weight + ")",
                    x.claim(land, other, age, beside, weight), plain.claim(land, other, age, beside, weight));
                break;
            case 2:
                long told = toldStory();
                due(at + "judge(" + land + ", " + told + ")", x.judge(land, told), plain.judge(land, told));
                break;
            default:
                int what = below(9) == 0 ? about(0, 20) : below(3) == 0 ? 0 : 10 + below(10);
                due(at + "story(" + land + ", " + what + ")", x.story(land, what), plain.story(land, what));
                break;
        }
    }

    private long toldStory() {
        long told = 0;
        int v = below(20) == 0 ? 1 : 0;
        for (int age = 0; age < 10; age++) {
            told |= (long) v << 4 * age;
            v = v + below(3) + 15 & 15;
        }
        return below(30) == 0 ? told - (1L << 40) : below(30) == 0 ? told | 1L << 40 : told;
    }

    private void poles(String at) {
        int land = about(-1, 5), put = about(-1, 5), v = about(0, 15), what = about(0, 2);
        int stripes = below(2) == 0 ? about(0, 16777215) : below(4096) * 4097, place = about(1, 23);
        switch (below(4)) {
            case 0: due(at + "floor(" + stripes + ")", x.floor(stripes), plain.floor(stripes)); break;
            case 1: due(at + "mirror(" + place + ")", x.mirror(place), plain.mirror(place)); break;
            case 2: due(at + "ridge()", x.ridge(), plain.ridge()); break;
            default:
                due(at + "pole(" + land + ", " + put + ", " + v + ", " + what + ")",
                    x.pole(land, put, v, what), plain.pole(land, put, v, what));
                break;
        }
    }

    private void told(String at) {
        int what = about(0, 6);
        if (below(6) == 0) {
            due(at + "digest()", x.digest(), plain.digest());
        } else {
            due(at + "count(" + what + ")", x.count(what), plain.count(what));
        }
    }
}
