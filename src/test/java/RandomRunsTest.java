/**
 * Runs of 512 calls that hardly make sense: nothing is thrown, the same calls give the same answers, the broker's bytes
 * are whole frames, and there are never more than 24 letters.
 */
public final class RandomRunsTest {
    private static final int RUNS = 400;
    private static final int CALLS = 512;
    private static final int[] FIRST = {20, 20, 40, 50, 50, 60, 60, 60, 90, 10};
    private static final int[] SECOND = {10, 20, 30, 40, 50, 70, 80, 90, 110, 120};
    private static final int[] INSIDE = {0, 1, 1, 1, 113, 112, 46, 42, 35, 2, 7};
    private static final long[] OPENING = {0x414D515000000901L, 0x0100020A0BCEL, 0x0100020A1FCEL, 0x0100020A28CEL};

    private long state;
    private LetterBroker one = new LetterBroker();
    private LetterBroker other = new LetterBroker();
    private int calls = 0;

    private RandomRunsTest(long seed) {
        state = seed;
    }

    public static void main(String[] args) {
        boolean fine = true;
        for (int run = 1; run <= RUNS; run++) {
            try {
                new RandomRunsTest(run).run();
            } catch (RuntimeException e) {
                System.out.println("run " + run + ": " + e);
                fine = false;
            }
        }
        System.out.println(fine ? "all as due" : "not as due");
        System.exit(fine ? 0 : 1);
    }

    private void run() {
        while (calls < CALLS) {
            if (one.line() == 5) {
                same(one.connect() ? 1 : 0, other.connect() ? 1 : 0);
            } else if (one.line() < 4 && below(50) > 0) {
                send(OPENING[one.line()], one.line() == 0 ? 8 : 6);
                step();
            } else if (below(100) == 0) {
                send(state, below(12) - 1);
                step();
            } else {
                frame();
                step();
            }
            look();
            if (one.ready() > 400) {
                receiveFrames();
            }
        }
        receiveFrames();
    }

    private void frame() {
        int channel = 1 + below(2);
        boolean opens = one.channel(channel, 0) != 1;
        int kind = below(3) == 0 ? 1 + below(3) : 1;
        int n = opens ? 2 : below(8);
        send(kind << 16 | channel << 8 | n, 3);
        for (int i = 0; i < n; i++) {
            int first = opens ? 20 : FIRST[below(FIRST.length)];
            int second = opens ? one.channel(channel, 0) == 0 ? 10 : 41 : SECOND[below(SECOND.length)];
            send(i == 0 ? first : i == 1 ? second : INSIDE[below(INSIDE.length)], 1);
        }
        send(206, 1);
    }

    private void look() {
        int what = below(6) - 1;
        int which = below(6) - 1;
        same(one.channel(which, what), other.channel(which, what));
        same(one.queue(which, what), other.queue(which, what));
        int letters = 0;
        for (int i = 0; i < 5; i++) {
            letters += Math.max(0, one.queue(i, 0)) + Math.max(0, one.channel(i, 1));
        }
        demand(letters <= 24, "letters: " + letters);
        demand(one.queue(5, 0) == LetterBroker.NONE, "a sixth queue");
    }

    private void receiveFrames() {
        while (one.ready() > 0) {
            int kind = receive();
            int channel = receive();
            int n = receive();
            demand(kind >= 1 && kind <= 3 && channel >= 0 && channel <= 3, "a frame of " + kind + " " + channel);
            for (int i = 0; i < n; i++) {
                int inside = receive();
                demand(inside >= 0 && inside <= 255, "a byte " + inside);
            }
            demand(receive() == 206, "a frame without its end");
        }
        demand(receive() == LetterBroker.NONE, "a byte that was not ready");
    }

    private void send(long bytes, int n) {
        same(one.send(bytes, n), other.send(bytes, n));
    }

    private void step() {
        same(one.step(), other.step());
    }

    private int receive() {
        int got = one.receive();
        same(got, other.receive());
        return got;
    }

    private void same(int got, int again) {
        calls++;
        demand(got == again, got + " and then " + again);
    }

    private static void demand(boolean fine, String what) {
        if (!fine) {
            throw new IllegalStateException(what);
        }
    }

    private int below(int bound) {
        state = state * 6364136223846793005L + 1442695040888963407L;
        return (int) Math.floorMod(state >>> 33, (long) bound);
    }
}
