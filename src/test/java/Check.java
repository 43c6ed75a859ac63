/** Counts the calls whose answer is not the one that is due. */
final class Check {
    private int wrong;
    private int asked;

    void due(String call, long got, long want) {
        asked++;
        if (got != want) {
            wrong++;
            System.out.println(call + " answered " + got + ", due is " + want);
        }
    }

    /** A call that is refused, and that leaves everything as it was. */
    void refused(EdgesFit x, String call, java.util.function.LongSupplier asking, long want) {
        long before = x.digest();
        due(call, asking.getAsLong(), want);
        due("digest() behind " + call, x.digest(), before);
    }

    void end() {
        System.out.println(asked + " answers, " + wrong + " of them not as due");
        if (wrong != 0) {
            System.exit(1);
        }
    }

    /** Writes a text behind the page, eight letters a call. */
    static void write(EdgesFit x, String text) {
        for (int from = 0; from < text.length(); from += 8) {
            x.letters(packed(text.substring(from, Math.min(text.length(), from + 8))));
        }
    }

    static long packed(String text) {
        long w = 0;
        for (int i = text.length() - 1; i >= 0; i--) {
            w = w << 8 | text.charAt(i);
        }
        return w;
    }

    static int tell(EdgesFit x, int holder, String text) {
        write(x, text);
        return x.law(holder);
    }
}
