/**
 * "An object is used for at most 512 calls after it has been made": each call of the face as the 512th, behind runs of
 * many kinds: ordinary ones, such as are refused in part or mostly, and such as begin with all there can be.
 */
final class LastCallTest {
    private static final int LAST = 512, RUNS = 6;

    public static void main(String[] args) {
        Check check = new Check();
        for (int call = 0; call < Play.CALLS.length; call++) {
            for (int run = 0; run < RUNS; run++) {
                Play play = new Play(check, Play.CALLS[call] + " last, run " + run, 104729L * (RUNS * call + run + 1));
                before(play, run);
                check.due("calls ahead of the last", play.calls(), LAST - 1);
                play.play(Play.CALLS[call]);
            }
        }
        check.end();
    }

    private static void before(Play play, int run) {
        if (run % 2 == 1) {
            play.fill();
        }
        play.wrongs(run < 4 ? 1 : 20);
        play.until(LAST - 1);
        play.wrongs(run < 2 ? 0 : 10);
    }
}
