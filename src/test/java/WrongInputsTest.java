import java.util.Random;

/** No call ever throws, whatever it is asked in whatever state; and what refuses, changes nothing. */
public final class WrongInputsTest {
    private static final int[] EDGES = {Integer.MIN_VALUE, Integer.MIN_VALUE + 1, -100, -15, -2, -1, 0, 1, 2, 3, 4, 5, 6, 7,
        15, 16, 39, 40, 41, 59, 60, 61, 63, 99, 100, 255, 256, 999, 1000, 32768, 65535, 65536, 99999, 100000,
        Integer.MAX_VALUE - 1, Integer.MAX_VALUE};

    public static void main(String[] args) {
        Random lots = new Random(17);
        for (int run = 0; run < 3000; run++) {
            NameThrownBack x = new NameThrownBack();
            if (run % 3 > 0) {
                Calls.start(x, lots);
            }
            for (int i = 0; i < 50; i++) {
                asks(x, lots.nextInt(Calls.MANY), lots);
            }
            for (int i = 0; i < 2; i++) {
                int call = lots.nextInt(Calls.MANY);
                String was = Due.seen(x);
                long answer = asks(x, call, lots);
                // text() empties the tape by a fault, fishersBy() keeps what stood ahead
                if (answer < -1 && call != Calls.TEXT && call != Calls.FISHERS_BY && call != Calls.LANDS) {
                    Due.holds("run " + run + ": " + answer + " changed nothing", was.equals(Due.seen(x)));
                }
            }
        }
        Due.end();
    }

    /** Some call with some numbers; it must not throw. */
    static long asks(NameThrownBack x, int call, Random lots) {
        int[] a = new int[6];
        for (int k = 0; k < a.length; k++) {
            a[k] = lots.nextInt(3) == 0 ? lots.nextInt(7) : EDGES[lots.nextInt(EDGES.length)];
        }
        try {
            long answer = Calls.ask(x, call, a);
            Due.holds(Calls.name(call, a) + " doesn't throw", true);
            return answer;
        } catch (RuntimeException e) {
            Due.holds(Calls.name(call, a) + " threw " + e, false);
            return 0;
        }
    }
}
