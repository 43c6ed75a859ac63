/** Calls by a seed, the same ones each time, on the class and on the plain model: each two answers have to be alike. */
final class Play {
    /** The calls of the document's face, in its order. */
    static final String[] CALLS = {
        "cell", "run", "land", "mark", "as", "about", "goesOn", "drop", "put", "fit", "chance", "beside", "letters", "blank",
        "fault", "law", "strike", "distance", "beast", "crossing", "spread", "unlike", "speed", "claim", "story", "judge",
        "pole", "floor", "mirror", "ridge", "count", "digest"};
    private static final String[] BUILDING = {
        "run", "run", "run", "cell", "land", "mark", "mark", "law text", "law text", "beast", "speed", "claim", "claim"};
    private static final String[] ANY = {
        "cell", "run", "run", "land", "mark", "mark", "mark", "as", "about", "goesOn", "drop", "put", "put", "fit", "fit", "chance",
        "chance", "beside", "beside", "letters", "blank", "fault", "law", "strike", "distance", "beast", "law text", "law text",
        "crossing", "crossing", "spread", "spread", "unlike", "speed", "claim", "story", "story", "story", "judge", "pole", "pole",
        "floor", "floor", "mirror", "ridge", "count", "digest"};

    private final Check check;
    private final String name;
    private final EdgesFit x = new EdgesFit();
    private final Plain plain = new Plain();
    private long seed;
    private int calls;
    /** How often, of sixty times, an argument is not one that is allowed. */
    private int wrongs = 1;

    Play(Check check, String name, long seed) {
        this.check = check;
        this.name = name;
        this.seed = seed;
    }

    int calls() {
        return calls;
    }

    void wrongs(int ofSixty) {
        wrongs = ofSixty;
    }

    private int below(int bound) {
        seed = seed * 6364136223846793005L + 1442695040888963407L;
        return (int) ((seed >>> 33) % bound);
    }

    /** Mostly from 'from' to 'to', now and then just outside, or far off. */
    private int about(int from, int to) {
        if (below(60) < wrongs) {
            return new int[] {from - 1, to + 1, Integer.MIN_VALUE, Integer.MAX_VALUE, -from - 2}[below(5)];
        }
        return from + below(to - from + 1);
    }

    private int land() {
        return about(0, 5);
    }

    private void due(String call, long got, long want) {
        calls++;
        check.due(name + " call " + calls + ": " + call, got, want);
    }

    /** Plays on until so many calls are made in all; the first ones build what the later ones ask about. */
    void until(int many) {
        while (calls < many) {
            String call = calls < 120 ? BUILDING[below(BUILDING.length)] : ANY[below(ANY.length)];
            if (call.equals("law text")) {
                tellLaw(many);
            } else {
                play(call);
            }
        }
    }

    /** As much of everything as there can be. */
    void fill() {
        for (int row = 0; row < 8; row++) {
            due("run", x.run(row % 6, row, row, 14), plain.run(row % 6, row, row, 14));
        }
        for (int i = 0; i < 40; i++) {
            int cell = 16 * (i % 8) + (i % 8 + i / 8) % 16, kind = below(6), n = below(4);
            due("mark", x.mark(kind, cell, n), plain.mark(kind, cell, n));
        }
        for (int i = 0; i < 16; i++) {
            write("BSC".charAt(i % 3) + ":" + below(100) + "?" + factor());
            due("law", x.law(i % 2), plain.law(i % 2));
        }
        for (int i = 0; i < 8; i++) {
            int lands = 1 + below(63), age = below(10);
            due("beast", x.beast(lands, age), plain.beast(lands, age));
        }
        for (int i = 0; i < 12; i++) {
            int land = below(2), age = below(10), weight = 1 + below(9);
            due("claim", x.claim(land, 2 + i % 4, age, i % 3 > 0, weight), plain.claim(land, 2 + i % 4, age, i % 3 > 0, weight));
        }
        write("C:99?!!!!!!!!!!!!!!!d<99&e>0|k=3|e<9&d>12|k>4&d=1");
    }

    private void write(String text) {
        for (int from = 0; from < text.length(); from += 8) {
            long w = Check.packed(text.substring(from, Math.min(from + 8, text.length())));
            due("letters of " + text, x.letters(w), plain.letters(w));
        }
    }

    private void tellLaw(int many) {
        String text = lawText();
        // With what follows it takes the letters' calls and three more.
        if (calls + 3 + (text.length() + 7) / 8 > many) {
            play("count");
            return;
        }
        if (below(4) > 0) {
            play("blank");
        }
        write(text);
        play("fault");
        play("law");
    }

    private String lawText() {
        StringBuilder text = new StringBuilder();
        text.append("JBSC".charAt(below(4))).append(':').append(below(3) == 0 ? below(100) : below(10));
        if (below(3) > 0) {
            text.append('?').append(factor());
            for (int i = below(4); i > 0; i--) {
                text.append("&|".charAt(below(2))).append(factor());
            }
        }
        if (below(8) == 0) {
            text.setCharAt(below(text.length()), "JBSC:019?!dek<=>&|x".charAt(below(19)));
        }
        if (below(8) == 0) {
            text.setLength(below(text.length()) + 1);
        }
        return text.toString();
    }

    private String factor() {
        String text = "!!".substring(below(3)) + "dek".charAt(below(3)) + "<=>".charAt(below(3));
        return text + (below(9) == 0 ? below(100) : below(10));
    }

    /** One call of that name, with arguments by the seed. */
    void play(String call) {
        switch (call) {
            case "cell": case "run": case "land": case "mark": case "as": case "about": case "goesOn": case "drop":
                playLands(call);
                break;
            case "put": case "fit": case "chance": case "beside":
                playFits(call);
                break;
            case "letters": case "blank": case "fault": case "law": case "strike": case "distance": case "beast":
                playLaws(call);
                break;
            case "crossing": case "spread": case "unlike":
                playCrossings(call);
                break;
            case "speed": case "claim": case "story": case "judge":
                playStories(call);
                break;
            default:
                playPoles(call);
                break;
        }
    }

    private void playLands(String call) {
        int to = about(-1, 5), land = land(), row = about(0, 7), column = about(0, 15), many = about(1, below(3) == 0 ? 16 : 4);
        int cell = about(0, 127), of = about(0, 2), what = about(0, 3), kind = about(0, 5), n = about(0, below(2) == 0 ? 15 : 2);
        int a = markNumber(), b = markNumber(), on = cellOfALand();
        switch (call) {
            case "cell": due("cell(" + to + ", " + cell + ")", x.cell(to, cell), plain.cell(to, cell)); break;
            case "run":
                due("run(" + land + ", " + row + ", " + column + ", " + many + ")",
                    x.run(land, row, column, many), plain.run(land, row, column, many));
                break;
            case "land": due("land(" + land + ", " + of + ")", x.land(land, of), plain.land(land, of)); break;
            case "mark": due("mark(" + kind + ", " + on + ", " + n + ")", x.mark(kind, on, n), plain.mark(kind, on, n)); break;
            case "as": due("as(" + a + ", " + kind + ")", x.as(a, kind), plain.as(a, kind)); break;
            case "about": due("about(" + a + ", " + what + ")", x.about(a, what), plain.about(a, what)); break;
            case "goesOn": due("goesOn(" + a + ", " + b + ")", x.goesOn(a, b), plain.goesOn(a, b)); break;
            default: due("drop()", x.drop(), plain.drop()); break;
        }
    }

    private int markNumber() {
        return below(6) == 0 ? about(0, 39) : below(plain.count(1) + 1);
    }

    private int cellOfALand() {
        int least = plain.land(below(6), 1);
        return below(3) == 0 || least < 0 ? about(0, 127) : least + below(3);
    }

    private void playFits(String call) {
        int a = land(), b = land(), u = below(3) == 0 ? about(-7, 7) : about(-2, 2), v = about(0, 15);
        int what = about(0, 5), part = about(0, 1), of = about(0, 2);
        String place = "(" + a + ", " + b + ", " + u + ", " + v;
        switch (call) {
            case "put": due("put" + place + ", " + what + ")", x.put(a, b, u, v, what), plain.put(a, b, u, v, what)); break;
            case "fit": due("fit(" + a + ", " + b + ", " + of + ")", x.fit(a, b, of), plain.fit(a, b, of)); break;
            case "chance": due("chance" + place + ", " + part + ")", x.chance(a, b, u, v, part), plain.chance(a, b, u, v, part)); break;
            default: due("beside" + place + ")", x.beside(a, b, u, v), plain.beside(a, b, u, v)); break;
        }
    }

    private void playLaws(String call) {
        int holder = about(0, 1), lands = about(1, 63), age = about(0, 9), a = land(), b = land();
        long w = below(3) == 0 ? (long) below(1 << 30) << 31 | below(1 << 30) : below(2) == 0 ? below(300) : Check.packed(lawText()) >>> 8;
        switch (call) {
            case "letters": due("letters(" + w + ")", x.letters(w), plain.letters(w)); break;
            case "blank": due("blank()", x.blank(), plain.blank()); break;
            case "fault": due("fault()", x.fault(), plain.fault()); break;
            case "law": due("law(" + holder + ")", x.law(holder), plain.law(holder)); break;
            case "strike": due("strike(" + holder + ")", x.strike(holder), plain.strike(holder)); break;
            case "distance": due("distance(" + a + ", " + b + ")", x.distance(a, b), plain.distance(a, b)); break;
            default: due("beast(" + lands + ", " + age + ")", x.beast(lands, age), plain.beast(lands, age)); break;
        }
    }

    private void playCrossings(String call) {
        int holder = about(0, 1), beast = about(0, Math.max(1, plain.count(4)) - 1), a = land(), b = land(), what = about(0, 1);
        switch (call) {
            case "crossing":
                due("crossing(" + holder + ", " + beast + ", " + a + ", " + b + ", " + what + ")",
                    x.crossing(holder, beast, a, b, what), plain.crossing(holder, beast, a, b, what));
                break;
            case "spread":
                due("spread(" + holder + ", " + beast + ", " + what + ")", x.spread(holder, beast, what), plain.spread(holder, beast, what));
                break;
            default: due("unlike(" + what + ")", x.unlike(what), plain.unlike(what)); break;
        }
    }

    private void playStories(String call) {
        int land = land(), other = land(), age = about(0, 9), weight = about(1, below(2) == 0 ? 99 : 6), speed = about(0, 7);
        int what = below(9) == 0 ? about(0, 20) : below(3) == 0 ? 0 : 10 + below(10);
        boolean beside = below(2) == 0;
        long told = toldStory();
        switch (call) {
            case "speed": due("speed(" + speed + ")", x.speed(speed), plain.speed(speed)); break;
            case "claim":
                due("claim(" + land + ", " + other + ", " + age + ", " + beside + ", " + weight + ")",
                    x.claim(land, other, age, beside, weight), plain.claim(land, other, age, beside, weight));
                break;
            case "story": due("story(" + land + ", " + what + ")", x.story(land, what), plain.story(land, what)); break;
            default: due("judge(" + land + ", " + told + ")", x.judge(land, told), plain.judge(land, told)); break;
        }
    }

    private long toldStory() {
        long told = 0;
        int v = below(20) == 0 ? 1 : 0;
        for (int age = 0; age < 10; age++) {
            told |= (long) v << 4 * age;
            v = v + below(3) + 15 & 15;
        }
        return below(30) == 0 ? told - (1L << 40) : below(30) == 0 ? told | 1L << 40 : told;
    }

    private void playPoles(String call) {
        int land = about(-1, 5), put = about(-1, 5), v = about(0, 15), what = about(0, 2), of = about(0, 6);
        int stripes = below(2) == 0 ? about(0, 16777215) : below(4096) * 4097, place = about(1, 23);
        switch (call) {
            case "pole":
                due("pole(" + land + ", " + put + ", " + v + ", " + what + ")",
                    x.pole(land, put, v, what), plain.pole(land, put, v, what));
                break;
            case "floor": due("floor(" + stripes + ")", x.floor(stripes), plain.floor(stripes)); break;
            case "mirror": due("mirror(" + place + ")", x.mirror(place), plain.mirror(place)); break;
            case "ridge": due("ridge()", x.ridge(), plain.ridge()); break;
            case "count": due("count(" + of + ")", x.count(of), plain.count(of)); break;
            default: due("digest()", x.digest(), plain.digest()); break;
        }
    }
}
