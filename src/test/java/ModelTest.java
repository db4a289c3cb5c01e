import java.util.NoSuchElementException;
import java.util.Random;

/** Long mixed runs of calls, each answer held against the plain model's. */
public final class ModelTest {
    private static final Due DUE = new Due("ModelTest");
    private static final int THROWN = -77;

    private final Random random;
    private final WovenKeeper x = new WovenKeeper();
    private final PlainKeeper y = new PlainKeeper();
    private final StringBuilder run = new StringBuilder();
    private final int most;

    private ModelTest(long seed, int most) {
        this.random = new Random(seed);
        this.most = most;
    }

    public static void main(String[] args) {
        int runs = args.length > 0 ? Integer.parseInt(args[0]) : 200;
        long from = args.length > 1 ? Long.parseLong(args[1]) : 0;
        for (long n = from; n < from + runs && DUE.wrong() < 5; n++) {
            new ModelTest(n, n % 4 == 0 ? 25 : 9).go(n);
        }
        DUE.close();
    }

    private int below(int n) {
        return random.nextInt(n);
    }

    /** Mostly 0 to n less 1, now and then a little or far outside. */
    private int near(int n) {
        int dice = below(60);
        if (dice == 0) {
            return n + below(2);
        }
        if (dice == 1) {
            return -1 - below(2);
        }
        if (dice == 2) {
            return random.nextBoolean() ? Integer.MIN_VALUE : Integer.MAX_VALUE;
        }
        return below(Math.max(1, n));
    }

    private void same(String call, long got, long want) {
        run.append(call).append(" -> ").append(got).append('\n');
        int before = DUE.wrong();
        DUE.is(call, got, want);
        if (DUE.wrong() > before) {
            System.out.println(run);
        }
    }

    private void go(long n) {
        run.append("run ").append(n).append('\n');
        if (random.nextBoolean()) {
            same("code(5)", x.code(5), y.code(5));
        }
        if (random.nextBoolean()) {
            works();
        }
        for (int calls = 0; calls < 150; calls++) {
            if (below(3) == 0) {
                change();
            }
            ask();
        }
    }

    private void change() {
        switch (below(12)) {
            case 0, 1, 2, 3 -> works();
            case 4 -> {
                int kind = near(2);
                int how = near(3);
                same("correct(" + kind + ", " + how + ")", x.correct(kind, how), y.correct(kind, how));
            }
            case 5, 6 -> {
                int rounds = near(below(3) == 0 ? 9 : 3);
                int e = below(3) == 0 ? near(22) : near(4);
                int seed = random.nextInt();
                String call = "drawn(" + rounds + ", " + e + ", " + seed + ")";
                same(call, x.drawn(rounds, e, seed), y.drawn(rounds, e, seed));
            }
            case 7 -> {
                int kind = near(2);
                int k = near(x.now(2));
                same("press(" + kind + ", " + k + ")", x.press(kind, k), y.press(kind, k));
            }
            case 8 -> {
                int kind = near(2);
                same("chain(" + kind + ")", x.chain(kind), y.chain(kind));
            }
            case 9 -> same("undo()", x.undo(), y.undo());
            case 10 -> images();
            default -> {
                if (below(4) == 0) {
                    int size = below(7);
                    same("code(" + size + ")", x.code(size), y.code(size));
                } else {
                    same("undo()", x.undo(), y.undo());
                }
            }
        }
        state();
    }

    private void images() {
        int k = near(2);
        if (random.nextBoolean()) {
            same("image(" + k + ")", x.image(k) ? 1 : 0, y.image(k) ? 1 : 0);
        } else {
            same("restore(" + k + ")", x.restore(k) ? 1 : 0, y.restore(k) ? 1 : 0);
        }
    }

    private void state() {
        for (int what = 0; what < 10; what++) {
            same("now(" + what + ")", x.now(what), y.now(what));
        }
        for (int round = 0; round < 8; round++) {
            for (int kind = 0; kind < 2; kind++) {
                same("reading(" + kind + ", " + round + ")", x.reading(kind, round), y.reading(kind, round));
            }
        }
    }

    private void works() {
        String text = Texts.work(random, x.now(0), x.now(2), most);
        int[] numbers = Tape.numbers(text);
        for (int i = 0; i < numbers.length; i += 5) {
            int a = numbers[i];
            int b = numbers[i + 1];
            int c = numbers[i + 2];
            int d = numbers[i + 3];
            int e = numbers[i + 4];
            same("feed(..)", x.feed(a, b, c, d, e), y.feed(a, b, c, d, e));
        }
        int n = below(30) == 0 ? near(250) : text.length();
        same("end(" + n + ")", x.end(n) ? 1 : 0, y.end(n) ? 1 : 0);
        if (below(20) > 0) {
            same("work() of " + text, x.work(), y.work());
            same("fault()", x.fault(), y.fault());
        }
    }

    private void ask() {
        int kind = near(2);
        askMore(below(27), kind, near(2), Math.max(0, x.events(kind)));
    }

    private void askMore(int which, int kind, int logical, int events) {
        int i = near(events);
        int j = near(events + 1) - 1;
        int k = near(x.now(2));
        int what = near(4);
        String of = "(" + kind + ", " + i + ", " + j + ", " + k + ", " + what + ")";
        switch (which) {
            case 0 -> checks(kind, k, what);
            case 1 -> qubits(near(x.now(0) * x.now(0)), what);
            case 2 -> same("reading" + of, x.reading(kind, k), y.reading(kind, k));
            case 3 -> same("events" + of, x.events(kind), y.events(kind));
            case 4 -> same("event" + of, x.event(kind, i, what), y.event(kind, i, what));
            case 5, 6 -> same("far" + of, x.far(kind, i, j), y.far(kind, i, j));
            case 7, 8 -> wholeWay(kind, i, j);
            case 9, 10 -> pairs(kind);
            case 11 -> same("partner" + of, x.partner(i), y.partner(i));
            case 12 -> same("pairings" + of, x.pairings(kind), y.pairings(kind));
            case 13, 14 -> grows(kind);
            case 15 -> blames(kind);
            case 16 -> same("edges" + of, x.edges(kind), y.edges(kind));
            case 17 -> edges(kind, near(Math.max(1, x.edges(0))), what);
            case 18 -> corrections(kind);
            case 19 -> same("distance" + of, x.distance(kind), y.distance(kind));
            case 20 -> likes(kind, logical);
            case 21 -> odds(kind, logical);
            case 22 -> same("fewest" + of, x.fewest(kind, logical), y.fewest(kind, logical));
            case 23 -> lines(near(12));
            case 24 -> same("byteAt" + of, x.byteAt(i), y.byteAt(i));
            case 25 -> same("now" + of, x.now(k), y.now(k));
            default -> often(kind);
        }
    }

    private void checks(int kind, int k, int what) {
        long got = THROWN;
        long want = THROWN;
        try {
            got = x.check(kind, k, what);
        } catch (NoSuchElementException e) {
            got = THROWN;
        }
        try {
            want = y.check(kind, k, what);
        } catch (NoSuchElementException e) {
            want = THROWN;
        }
        same("check(" + kind + ", " + k + ", " + what + ")", got, want);
    }

    private void qubits(int q, int what) {
        long got = THROWN;
        long want = THROWN;
        try {
            got = x.qubit(q, what);
        } catch (NoSuchElementException e) {
            got = THROWN;
        }
        try {
            want = y.qubit(q, what);
        } catch (NoSuchElementException e) {
            want = THROWN;
        }
        same("qubit(" + q + ", " + what + ")", got, want);
    }

    private void edges(int kind, int number, int what) {
        long got = THROWN;
        long want = THROWN;
        try {
            got = x.edge(kind, number, what);
        } catch (NoSuchElementException e) {
            got = THROWN;
        }
        try {
            want = y.edge(kind, number, what);
        } catch (NoSuchElementException e) {
            want = THROWN;
        }
        same("edge(" + kind + ", " + number + ", " + what + ")", got, want);
    }

    private void wholeWay(int kind, int i, int j) {
        for (int k = -1; k < 200; k++) {
            int got = x.way(kind, i, j, k);
            same("way(" + kind + ", " + i + ", " + j + ", " + k + ")", got, y.way(kind, i, j, k));
            if (k >= 0 && got == -1) {
                return;
            }
        }
    }

    private void pairs(int kind) {
        same("pair(" + kind + ")", x.pair(kind), y.pair(kind));
        for (int i = -2; i < 16; i++) {
            same("partner(" + i + ")", x.partner(i), y.partner(i));
        }
    }

    private void grows(int kind) {
        same("grow(" + kind + ")", x.grow(kind), y.grow(kind));
        for (int what = -1; what < 6; what++) {
            same("grown(" + what + ")", x.grown(what), y.grown(what));
        }
        for (int k = -1; k < 200; k++) {
            int got = x.peeledAt(k);
            same("peeledAt(" + k + ")", got, y.peeledAt(k));
            if (k >= 0 && got == -1) {
                return;
            }
        }
    }

    private void blames(int kind) {
        for (int round = -1; round < 9; round++) {
            int how = near(2);
            same("blame(" + kind + ", " + how + ", " + round + ")", x.blame(kind, how, round), y.blame(kind, how, round));
        }
    }

    private void corrections(int kind) {
        for (int how = -1; how < 4; how++) {
            String of = "(" + kind + ", " + how + ")";
            same("correction" + of, x.correction(kind, how), y.correction(kind, how));
            same("result" + of, x.result(kind, how), y.result(kind, how));
        }
    }

    private void likes(int kind, int logical) {
        int n = near(x.now(0) * x.now(0) + 1);
        String call = "like(" + kind + ", " + logical + ", " + n + ")";
        same(call, x.like(kind, logical, n), y.like(kind, logical, n));
    }

    private void odds(int kind, int logical) {
        int a = below(2) == 0 ? near(100) : near(6);
        int b = below(2) == 0 ? near(100) : near(6);
        String call = "odds(" + kind + ", " + logical + ", " + a + ", " + b + ")";
        same(call, x.odds(kind, logical, a, b), y.odds(kind, logical, a, b));
    }

    private void lines(int r) {
        same("line(" + r + ")", x.line(r), y.line(r));
        for (int i = -1; i < 13; i++) {
            same("byteAt(" + i + ")", x.byteAt(i), y.byteAt(i));
        }
    }

    private void often(int kind) {
        int how = near(3);
        int rounds = 1 + near(3);
        int e = near(5);
        int seed = below(5) == 0 ? Integer.MAX_VALUE - below(3) : random.nextInt();
        int n = 1 + near(4);
        String call = "often(" + kind + ", " + how + ", " + rounds + ", " + e + ", " + seed + ", " + n + ")";
        same(call, x.often(kind, how, rounds, e, seed, n), y.often(kind, how, rounds, e, seed, n));
    }
}
