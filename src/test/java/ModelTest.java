/** Long runs of calls, the same ones each time, on the class and on the plain model: all answers are alike. */
final class ModelTest {
    private static final int RUNS = 50, CALLS_OF_AN_OBJECT = 512;

    public static void main(String[] args) {
        Check check = new Check();
        for (int run = 1; run <= RUNS; run++) {
            new Play(check, "run " + run, run * 7919L).until(CALLS_OF_AN_OBJECT);
        }
        check.end();
    }
}
