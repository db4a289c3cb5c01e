import java.util.Arrays;
import java.util.NoSuchElementException;

/** A keeper of a woven code; what it promises stands in the project's document, by number. */
public final class WovenKeeper {
    public static final int NONE = -1;

    private static final int KINDS = 2;
    private static final int MOST_SIZE = 5;
    private static final int MOST_QUBITS = 25;
    private static final int MOST_CHECKS = 12;
    private static final int MOST_ROUNDS = 8;
    private static final int MOST_LAYERS = 9;
    private static final int MOST_SPOTS = MOST_LAYERS * MOST_CHECKS;
    private static final int MOST_EDGES = MOST_ROUNDS * (MOST_QUBITS + MOST_CHECKS) + MOST_QUBITS;
    private static final int MOST_PAIRED = 14;
    private static final int MOST_TAPE = 240;
    private static final int MOST_WORK = 200;
    private static final int MOST_STEPS = 30;
    private static final int MOST_BEGUN = 100;
    private static final int MOST_UNDONE = 8;
    private static final int MOST_IMAGES = 2;
    private static final int MOST_OFTEN = 8;
    private static final int MOST_CHANCE = 21;
    private static final int MOST_FACTOR = 99;
    private static final int BY_PAIRING = 0;
    private static final int BY_PEELING = 1;
    private static final int BY_LIGHTEST = 2;
    private static final int WITH_BORDER = -2;

    private final Weave small = new Weave(3);
    private final Weave large = new Weave(5);
    private final Fabric fabric = new Fabric(small);
    private final Fabric trial = new Fabric(small);
    private final Fabric[] images = new Fabric[MOST_IMAGES];
    private final boolean[] imageKept = new boolean[MOST_IMAGES];
    private final History history = new History(small);
    private final Script script = new Script();
    private final Net net = new Net();
    private final Ways ways = new Ways();
    private final Pairing pairing = new Pairing();
    private final Growth growth = new Growth();
    private final Likes likes = new Likes();
    private final Told told = new Told();

    public WovenKeeper() {
        for (int k = 0; k < MOST_IMAGES; k++) {
            images[k] = new Fabric(small);
        }
    }

    public int feed(int a, int b, int c, int d, int e) {
        if (script.length > MOST_TAPE - 20) {
            return NONE;
        }
        script.put(a);
        script.put(b);
        script.put(c);
        script.put(d);
        script.put(e);
        return script.length;
    }

    public boolean end(int n) {
        if (n < 0 || n > script.length) {
            return false;
        }
        script.length = n;
        return true;
    }

    public int code(int size) {
        if (size != small.size && size != large.size) {
            return NONE;
        }
        fabric.startAnew(size == small.size ? small : large);
        history.kept = 0;
        return fabric.weave.qubits;
    }

    public int work() {
        boolean right = script.isRight(fabric.weave);
        script.length = 0;
        if (!right) {
            return -1000 - script.faultPlace;
        }
        history.keep(fabric);
        return script.doneOn(fabric);
    }

    public int fault() {
        return script.faultKind;
    }

    public int now(int what) {
        switch (what) {
            case 0:
                return fabric.weave.size;
            case 1:
                return fabric.rounds;
            case 2:
                return fabric.weave.checks;
            case 3:
            case 4:
                return fabric.slips[what - 3];
            case 5:
            case 6:
                return fabric.loudOnes(what - 5);
            case 7:
            case 8:
                return fabric.marks[what - 7];
            case 9:
                return script.length;
            default:
                return NONE;
        }
    }

    public int check(int kind, int k, int what) throws NoSuchElementException {
        if (!isCheck(kind, k)) {
            throw new NoSuchElementException();
        }
        switch (what) {
            case 0:
                return fabric.weave.faceRow[kind][k];
            case 1:
                return fabric.weave.faceColumn[kind][k];
            case 2:
                return fabric.weave.faceBits[kind][k];
            case 3:
                return fabric.lateness[kind][k];
            default:
                throw new NoSuchElementException();
        }
    }

    public int qubit(int q, int what) throws NoSuchElementException {
        if (q < 0 || q >= fabric.weave.qubits) {
            throw new NoSuchElementException();
        }
        switch (what) {
            case 0:
                return fabric.weights[q];
            case 1:
            case 2:
                return fabric.weave.checksOn(what - 1, q);
            default:
                throw new NoSuchElementException();
        }
    }

    public int reading(int kind, int round) {
        if (!isKind(kind) || !isRound(round)) {
            return NONE;
        }
        return fabric.readings[kind][round];
    }

    public int events(int kind) {
        if (!isKind(kind)) {
            return NONE;
        }
        net.spread(fabric, kind);
        return net.eventCount;
    }

    public int event(int kind, int i, int what) {
        if (!isKind(kind)) {
            return NONE;
        }
        net.spread(fabric, kind);
        if (!net.hasEvent(i) || what < 0 || what > 1) {
            return NONE;
        }
        return what == 0 ? net.eventCheck[i] : net.eventLayer[i];
    }

    public int far(int kind, int i, int j) {
        return findWay(kind, i, j) ? ways.weight : NONE;
    }

    public int way(int kind, int i, int j, int k) {
        if (!findWay(kind, i, j) || k < 0 || k >= ways.length) {
            return NONE;
        }
        return ways.path[k];
    }

    public int pair(int kind) {
        if (!isKind(kind) || !paired(fabric, kind)) {
            return NONE;
        }
        told.keepPairing(pairing);
        return pairing.weight;
    }

    public int partner(int i) {
        if (i < 0 || i >= told.paired) {
            return NONE;
        }
        return told.partners[i];
    }

    public int pairings(int kind) {
        if (!isKind(kind) || !paired(fabric, kind)) {
            return NONE;
        }
        return pairing.howMany;
    }

    public int grow(int kind) {
        if (!isKind(kind)) {
            return NONE;
        }
        growAndPeel(fabric, kind);
        told.keepGrowth(growth, net);
        return growth.weight;
    }

    public int grown(int what) {
        if (!told.hasGrown || what < 0 || what >= told.growth.length) {
            return NONE;
        }
        return told.growth[what];
    }

    public int peeledAt(int k) {
        if (k < 0 || k >= told.peeledCount) {
            return NONE;
        }
        return told.peeled[k];
    }

    public int blame(int kind, int how, int round) {
        if (!isKind(kind) || !isRound(round)) {
            return NONE;
        }
        if (how == BY_PAIRING && paired(fabric, kind)) {
            pairing.trace(net, ways);
            return net.risesOf(pairing.odd, round);
        }
        if (how == BY_PEELING) {
            growAndPeel(fabric, kind);
            return net.risesOf(growth.peeled, round);
        }
        return NONE;
    }

    public int edges(int kind) {
        if (!isKind(kind)) {
            return NONE;
        }
        net.spread(fabric, kind);
        return net.edgeCount;
    }

    public int edge(int kind, int e, int what) throws NoSuchElementException {
        if (!isKind(kind)) {
            throw new NoSuchElementException();
        }
        net.spread(fabric, kind);
        if (e < 0 || e >= net.edgeCount) {
            throw new NoSuchElementException();
        }
        switch (what) {
            case 0:
                return net.lesser[e];
            case 1:
                return net.other[e] == net.border ? NONE : net.other[e];
            case 2:
                return net.weight[e];
            default:
                throw new NoSuchElementException();
        }
    }

    public int correction(int kind, int how) {
        if (!isKind(kind)) {
            return NONE;
        }
        return correctionOf(fabric, kind, how);
    }

    public int result(int kind, int how) {
        if (!isKind(kind)) {
            return NONE;
        }
        return resultOf(fabric, kind, how);
    }

    public int correct(int kind, int how) {
        int bits = isKind(kind) ? correctionOf(fabric, kind, how) : NONE;
        if (bits == NONE) {
            return NONE;
        }
        history.keep(fabric);
        fabric.slips[kind] ^= bits;
        return Integer.bitCount(bits);
    }

    public int distance(int kind) {
        if (!isKind(kind)) {
            return NONE;
        }
        return likes.leastChain(fabric, kind);
    }

    public int like(int kind, int logical, int n) {
        if (!isKind(kind) || !isLogical(logical) || n < 0 || n > fabric.weave.qubits) {
            return NONE;
        }
        likes.countSizes(fabric, kind, logical);
        return likes.ofSize[n];
    }

    public long odds(int kind, int logical, int a, int b) {
        if (!isKind(kind) || !isLogical(logical) || !isFactor(a) || !isFactor(b)) {
            return NONE;
        }
        likes.countSizes(fabric, kind, logical);
        return likes.chances(fabric.weave.qubits, a, b);
    }

    public int press(int kind, int k) {
        if (!isCheck(kind, k)) {
            return NONE;
        }
        history.keep(fabric);
        int onto = 1 - kind;
        fabric.slips[onto] ^= fabric.weave.faceBits[kind][k];
        return fabric.weave.logicalOf(onto, fabric.slips[onto]);
    }

    public int chain(int kind) {
        if (!isKind(kind)) {
            return NONE;
        }
        history.keep(fabric);
        fabric.slips[kind] ^= fabric.weave.chainBits[kind];
        return fabric.weave.logicalOf(kind, fabric.slips[kind]);
    }

    public int line(int r) {
        if (r < 0 || r > 2 * fabric.weave.size) {
            return NONE;
        }
        told.drawLine(fabric, r);
        return told.signCount;
    }

    public int byteAt(int i) {
        if (i < 0 || i >= told.signCount) {
            return NONE;
        }
        return told.signs[i];
    }

    public int fewest(int kind, int logical) {
        if (!isKind(kind) || !isLogical(logical)) {
            return NONE;
        }
        likes.countSizes(fabric, kind, logical);
        return likes.leastSize(fabric.weave.qubits);
    }

    public int drawn(int rounds, int e, int seed) {
        if (!canBeDrawn(rounds, e)) {
            return NONE;
        }
        history.keep(fabric);
        return fabric.drawRounds(rounds, e, seed);
    }

    public int often(int kind, int how, int rounds, int e, int seed, int n) {
        if (!isKind(kind) || how < BY_PAIRING || how > BY_LIGHTEST) {
            return NONE;
        }
        if (!canBeDrawn(rounds, e) || n < 1 || n > MOST_OFTEN) {
            return NONE;
        }
        int ones = 0;
        for (int turn = 0; turn < n; turn++) {
            trial.copyFrom(fabric);
            trial.drawRounds(rounds, e, seed + turn);
            if (resultOf(trial, kind, how) == 1) {
                ones++;
            }
        }
        return ones;
    }

    public int undo() {
        if (history.kept == 0) {
            return NONE;
        }
        history.takeBack(fabric);
        return history.kept;
    }

    public boolean image(int k) {
        if (k < 0 || k >= MOST_IMAGES) {
            return false;
        }
        images[k].copyFrom(fabric);
        imageKept[k] = true;
        return true;
    }

    public boolean restore(int k) {
        if (k < 0 || k >= MOST_IMAGES || !imageKept[k]) {
            return false;
        }
        fabric.copyFrom(images[k]);
        history.kept = 0;
        return true;
    }

    private static boolean isKind(int kind) {
        return kind == 0 || kind == 1;
    }

    private static boolean isLogical(int logical) {
        return logical == 0 || logical == 1;
    }

    private static boolean isFactor(int a) {
        return a >= 0 && a <= MOST_FACTOR;
    }

    private boolean isCheck(int kind, int k) {
        return isKind(kind) && k >= 0 && k < fabric.weave.checks;
    }

    private boolean isRound(int round) {
        return round >= 0 && round < fabric.rounds;
    }

    private boolean canBeDrawn(int rounds, int e) {
        if (rounds < 1 || rounds > MOST_ROUNDS - fabric.rounds) {
            return false;
        }
        return e >= 0 && e <= MOST_CHANCE;
    }

    private boolean findWay(int kind, int i, int j) {
        if (!isKind(kind) || i == j) {
            return false;
        }
        net.spread(fabric, kind);
        if (!net.hasEvent(i) || (j != NONE && !net.hasEvent(j))) {
            return false;
        }
        ways.seek(net, net.eventSpot[i], j == NONE ? net.border : net.eventSpot[j]);
        return true;
    }

    private boolean paired(Fabric of, int kind) {
        net.spread(of, kind);
        if (net.eventCount > MOST_PAIRED) {
            return false;
        }
        pairing.solve(net, ways);
        return true;
    }

    private void growAndPeel(Fabric of, int kind) {
        net.spread(of, kind);
        growth.growClumps(net);
        growth.layForest(net);
        growth.peelForest(net);
    }

    private int correctionOf(Fabric of, int kind, int how) {
        if (how == BY_PAIRING && paired(of, kind)) {
            pairing.trace(net, ways);
            return net.qubitsOf(pairing.odd);
        }
        if (how == BY_PEELING) {
            growAndPeel(of, kind);
            return net.qubitsOf(growth.peeled);
        }
        if (how == BY_LIGHTEST) {
            return likes.lightestSet(of, kind);
        }
        return NONE;
    }

    private int resultOf(Fabric of, int kind, int how) {
        int bits = correctionOf(of, kind, how);
        if (bits == NONE) {
            return NONE;
        }
        return of.weave.logicalOf(kind, of.slips[kind] ^ bits);
    }

    /** Where QUBITS and CHECKS of a CODE lie; it never changes once it is made. */
    private static final class Weave {
        final int size;
        final int qubits;
        final int checks;
        final int[][] faceRow = new int[KINDS][MOST_CHECKS];
        final int[][] faceColumn = new int[KINDS][MOST_CHECKS];
        final int[][] faceBits = new int[KINDS][MOST_CHECKS];
        final int[][] firstCheck = new int[KINDS][MOST_QUBITS];
        final int[][] secondCheck = new int[KINDS][MOST_QUBITS];
        final int[] logicalBits = new int[KINDS];
        final int[] chainBits = new int[KINDS];

        Weave(int size) {
            this.size = size;
            qubits = size * size;
            checks = (qubits - 1) / 2;
            for (int kind = 0; kind < KINDS; kind++) {
                layFaces(kind);
                layQubits(kind);
            }
            layBorders();
        }

        private void layFaces(int kind) {
            int k = 0;
            for (int i = 0; i <= size; i++) {
                for (int j = 0; j <= size; j++) {
                    if (kindAt(i, j) == kind && k < checks) {
                        faceRow[kind][k] = i;
                        faceColumn[kind][k] = j;
                        faceBits[kind][k] = bitsAt(i, j);
                        k++;
                    }
                }
            }
        }

        private int kindAt(int i, int j) {
            boolean rowWithin = i >= 1 && i < size;
            boolean columnWithin = j >= 1 && j < size;
            int kind = (i + j) % 2 == 0 ? 0 : 1;
            if (rowWithin && columnWithin) {
                return kind;
            }
            if (rowWithin) {
                return kind == 0 ? 0 : NONE;
            }
            if (columnWithin) {
                return kind == 1 ? 1 : NONE;
            }
            return NONE;
        }

        private int bitsAt(int i, int j) {
            int bits = 0;
            for (int row = i - 1; row <= i; row++) {
                for (int column = j - 1; column <= j; column++) {
                    if (row >= 0 && row < size && column >= 0 && column < size) {
                        bits |= 1 << (row * size + column);
                    }
                }
            }
            return bits;
        }

        private void layQubits(int kind) {
            for (int q = 0; q < qubits; q++) {
                int bits = checksOn(kind, q);
                int behind = bits & (bits - 1);
                firstCheck[kind][q] = Integer.numberOfTrailingZeros(bits);
                secondCheck[kind][q] = behind == 0 ? NONE : Integer.numberOfTrailingZeros(behind);
            }
        }

        private void layBorders() {
            for (int n = 0; n < size; n++) {
                logicalBits[0] |= 1 << n;
                logicalBits[1] |= 1 << (n * size);
            }
            chainBits[0] = logicalBits[1];
            chainBits[1] = logicalBits[0];
        }

        int checksOn(int kind, int q) {
            int bits = 0;
            for (int k = 0; k < checks; k++) {
                bits |= (faceBits[kind][k] >> q & 1) << k;
            }
            return bits;
        }

        int logicalOf(int kind, int set) {
            return Integer.bitCount(set & logicalBits[kind]) & 1;
        }
    }

    /** All that is so of a CODE: what undo and images keep. */
    private static final class Fabric {
        Weave weave;
        int rounds;
        final int[] slips = new int[KINDS];
        final int[] marks = new int[KINDS];
        final int[][] readings = new int[KINDS][MOST_ROUNDS];
        final int[] weights = new int[MOST_QUBITS];
        final int[][] lateness = new int[KINDS][MOST_CHECKS];

        Fabric(Weave weave) {
            startAnew(weave);
        }

        private void startAnew(Weave of) {
            weave = of;
            rounds = 0;
            Arrays.fill(weights, 1);
            for (int kind = 0; kind < KINDS; kind++) {
                slips[kind] = 0;
                marks[kind] = 0;
                Arrays.fill(readings[kind], 0);
                Arrays.fill(lateness[kind], 1);
            }
        }

        void copyFrom(Fabric from) {
            weave = from.weave;
            rounds = from.rounds;
            System.arraycopy(from.weights, 0, weights, 0, MOST_QUBITS);
            for (int kind = 0; kind < KINDS; kind++) {
                slips[kind] = from.slips[kind];
                marks[kind] = from.marks[kind];
                System.arraycopy(from.readings[kind], 0, readings[kind], 0, MOST_ROUNDS);
                System.arraycopy(from.lateness[kind], 0, lateness[kind], 0, MOST_CHECKS);
            }
        }

        int loudOnes(int kind) {
            int bits = 0;
            for (int k = 0; k < weave.checks; k++) {
                bits |= (Integer.bitCount(slips[kind] & weave.faceBits[kind][k]) & 1) << k;
            }
            return bits;
        }

        /** Whether there was room for one more ROUND. */
        boolean readAll() {
            if (rounds >= MOST_ROUNDS) {
                return false;
            }
            for (int kind = 0; kind < KINDS; kind++) {
                readings[kind][rounds] = loudOnes(kind) ^ marks[kind];
                marks[kind] = 0;
            }
            rounds++;
            return true;
        }

        int drawRounds(int many, int e, int seed) {
            int s = seed;
            int came = 0;
            for (int round = 0; round < many; round++) {
                for (int q = 0; q < weave.qubits; q++) {
                    s = drawBehind(s);
                    came += slipByDraw(drawOf(s), e, q);
                }
                for (int kind = 0; kind < KINDS; kind++) {
                    for (int k = 0; k < weave.checks; k++) {
                        s = drawBehind(s);
                        marks[kind] ^= drawOf(s) < e ? 1 << k : 0;
                    }
                }
                readAll();
            }
            return came;
        }

        private static int drawBehind(int s) {
            return s * 1103515245 + 12345;
        }

        private static int drawOf(int s) {
            return (s >>> 8) % 64;
        }

        private int slipByDraw(int draw, int e, int q) {
            if (draw >= 3 * e) {
                return 0;
            }
            boolean both = draw >= 2 * e;
            if (both || draw < e) {
                slips[0] ^= 1 << q;
            }
            if (both || draw >= e) {
                slips[1] ^= 1 << q;
            }
            return both ? 2 : 1;
        }
    }

    /** What can be undone: the latest fabrics in a ring, so that the oldest gives way. */
    private static final class History {
        int kept;
        private int top;
        private final Fabric[] ring = new Fabric[MOST_UNDONE];

        History(Weave weave) {
            for (int n = 0; n < MOST_UNDONE; n++) {
                ring[n] = new Fabric(weave);
            }
        }

        void keep(Fabric fabric) {
            ring[top].copyFrom(fabric);
            top = top + 1 < MOST_UNDONE ? top + 1 : 0;
            kept = Math.min(MOST_UNDONE, kept + 1);
        }

        void takeBack(Fabric fabric) {
            top = top > 0 ? top - 1 : MOST_UNDONE - 1;
            kept--;
            fabric.copyFrom(ring[top]);
        }
    }

    /** The tape, and the WORK that it is read as. */
    private static final class Script {
        private static final int BIT = 0;
        private static final int PHASE = 1;
        private static final int BOTH = 2;
        private static final int MISS = 3;
        private static final int ROUND = 4;
        private static final int WEIGH = 5;
        private static final int LATE = 6;
        private static final int AGAIN = 7;
        private static final int NOT_THERE = 1;
        private static final int NO_SUCH_NUMBER = 2;
        private static final int TOO_MANY = 3;
        private static final int TOO_DEEP = 4;
        private static final int END = -1;
        private static final int MOST_DEPTH = 2;

        int length;
        int faultKind;
        int faultPlace;
        private final int[] tape = new int[MOST_TAPE];
        private final int[] deed = new int[MOST_STEPS];
        private final int[] first = new int[MOST_STEPS];
        private final int[] second = new int[MOST_STEPS];
        private final int[] number = new int[MOST_STEPS];
        private final int[] behind = new int[MOST_STEPS];
        private final int[] opened = new int[MOST_DEPTH];
        private int depth;
        private int steps;
        private int at;
        private int size;
        private int checks;
        private int begun;
        private int done;

        void put(int four) {
            for (int shift = 24; shift >= 0; shift -= 8) {
                if (length < MOST_TAPE) {
                    tape[length] = four >>> shift & 255;
                    length++;
                }
            }
        }

        boolean isRight(Weave weave) {
            size = weave.size;
            checks = weave.checks;
            steps = 0;
            depth = 0;
            at = 0;
            faultKind = 0;
            faultPlace = 0;
            if (length > MOST_WORK) {
                return hasFault(NOT_THERE, MOST_WORK);
            }
            // each turn reads a byte at least
            for (int turn = 0; turn <= MOST_WORK; turn++) {
                int sign = signAhead();
                if (sign == END && depth == 0) {
                    return true;
                }
                boolean right = sign == ']' && depth > 0 ? closeAgain() : readStep();
                if (!right) {
                    return false;
                }
            }
            return hasFault(NOT_THERE, at);
        }

        private boolean hasFault(int kind, int place) {
            faultKind = kind;
            faultPlace = place;
            return false;
        }

        private boolean closeAgain() {
            depth--;
            behind[opened[depth]] = steps;
            return readSign(']') && readSign(';');
        }

        private boolean readStep() {
            int start = at;
            int word = readWord();
            if (word == NONE) {
                return hasFault(NOT_THERE, start);
            }
            if (steps >= MOST_STEPS) {
                return hasFault(TOO_MANY, start);
            }
            if (word == AGAIN && depth >= MOST_DEPTH) {
                return hasFault(TOO_DEEP, start);
            }
            int step = steps;
            steps++;
            deed[step] = word;
            String shape = shapeOf(word);
            for (int n = 0; n < shape.length(); n++) {
                if (!readPart(shape.charAt(n), step)) {
                    return false;
                }
            }
            if (word == AGAIN) {
                opened[depth] = step;
                depth++;
                return true;
            }
            return readSign(';');
        }

        private static String shapeOf(int word) {
            switch (word) {
                case MISS:
                    return "Kk";
                case ROUND:
                    return "";
                case WEIGH:
                    return "RCN";
                case LATE:
                    return "KkN";
                case AGAIN:
                    return "N[";
                default:
                    return "RC";
            }
        }

        private boolean readPart(int part, int step) {
            switch (part) {
                case 'R':
                    return readNumber(first, step, 0, size - 1);
                case 'C':
                    return readNumber(second, step, 0, size - 1);
                case 'K':
                    return readKind(step);
                case 'k':
                    return readNumber(second, step, 0, checks - 1);
                case 'N':
                    return readNumber(number, step, 1, 9);
                default:
                    return readSign(part);
            }
        }

        private boolean readKind(int step) {
            signAhead();
            int start = at;
            int word = readWord();
            if (word != BIT && word != PHASE) {
                return hasFault(NOT_THERE, start);
            }
            first[step] = word;
            return true;
        }

        /** The next byte that is no blank, or END; the place is then on it. */
        private int signAhead() {
            while (at < length && tape[at] == ' ') {
                at++;
            }
            return at < length ? tape[at] : END;
        }

        private boolean readSign(int sign) {
            if (signAhead() != sign) {
                return hasFault(NOT_THERE, at);
            }
            at++;
            return true;
        }

        private boolean readNumber(int[] into, int step, int least, int most) {
            signAhead();
            int start = at;
            int value = 0;
            while (at < length && tape[at] >= '0' && tape[at] <= '9') {
                // kept low, but above every bound: a long number can't wrap around into one
                value = Math.min(1000, value * 10 + tape[at] - '0');
                at++;
            }
            if (at == start) {
                return hasFault(NOT_THERE, start);
            }
            if (value < least || value > most) {
                return hasFault(NO_SUCH_NUMBER, start);
            }
            into[step] = value;
            return true;
        }

        /** A word is all small letters that stand together; NONE if it is none of the eight. */
        private int readWord() {
            int start = at;
            while (at < length && tape[at] >= 'a' && tape[at] <= 'z') {
                at++;
            }
            if (spells("bit", start)) {
                return BIT;
            }
            if (spells("phase", start)) {
                return PHASE;
            }
            if (spells("both", start)) {
                return BOTH;
            }
            if (spells("miss", start)) {
                return MISS;
            }
            if (spells("round", start)) {
                return ROUND;
            }
            if (spells("weigh", start)) {
                return WEIGH;
            }
            if (spells("late", start)) {
                return LATE;
            }
            return spells("again", start) ? AGAIN : NONE;
        }

        private boolean spells(String word, int start) {
            if (at - start != word.length()) {
                return false;
            }
            for (int n = 0; n < word.length(); n++) {
                if (tape[start + n] != word.charAt(n)) {
                    return false;
                }
            }
            return true;
        }

        int doneOn(Fabric fabric) {
            begun = 0;
            done = 0;
            doSteps(fabric, 0, steps, 0);
            return done;
        }

        private void doSteps(Fabric fabric, int from, int to, int within) {
            if (within > MOST_DEPTH) {
                return;
            }
            int step = from;
            for (int turn = 0; turn < MOST_STEPS && step < to; turn++) {
                if (deed[step] == AGAIN) {
                    for (int time = 0; time < number[step]; time++) {
                        doSteps(fabric, step + 1, behind[step], within + 1);
                    }
                    step = behind[step];
                } else {
                    beginStep(fabric, step);
                    step++;
                }
            }
        }

        private void beginStep(Fabric fabric, int step) {
            if (begun >= MOST_BEGUN) {
                return;
            }
            begun++;
            if (doStep(fabric, step)) {
                done++;
            }
        }

        private boolean doStep(Fabric fabric, int step) {
            int bit = 1 << (first[step] * size + second[step]);
            switch (deed[step]) {
                case ROUND:
                    return fabric.readAll();
                case MISS:
                    fabric.marks[first[step]] ^= 1 << second[step];
                    return true;
                case WEIGH:
                    fabric.weights[first[step] * size + second[step]] = number[step];
                    return true;
                case LATE:
                    fabric.lateness[first[step]][second[step]] = number[step];
                    return true;
                default:
                    fabric.slips[0] ^= deed[step] == PHASE ? 0 : bit;
                    fabric.slips[1] ^= deed[step] == BIT ? 0 : bit;
                    return true;
            }
        }
    }

    /** SPOTS, EDGES and EVENTS of one KIND; the BORDER is the spot behind all others. */
    private static final class Net {
        private static final int MOST_NEAR = 6;

        int spots;
        int border;
        int edgeCount;
        int eventCount;
        final int[] lesser = new int[MOST_EDGES];
        final int[] other = new int[MOST_EDGES];
        final int[] weight = new int[MOST_EDGES];
        final int[] nearCount = new int[MOST_SPOTS];
        final int[] near = new int[MOST_SPOTS * MOST_NEAR];
        final int[] eventCheck = new int[MOST_SPOTS];
        final int[] eventLayer = new int[MOST_SPOTS];
        final int[] eventSpot = new int[MOST_SPOTS];
        private int layers;
        private int qubits;
        private int checks;

        void spread(Fabric fabric, int kind) {
            layers = fabric.rounds + 1;
            qubits = fabric.weave.qubits;
            checks = fabric.weave.checks;
            spots = layers * checks;
            border = spots;
            edgeCount = 0;
            Arrays.fill(nearCount, 0);
            for (int t = 0; t < layers; t++) {
                joinWithin(fabric, kind, t);
                if (t + 1 < layers) {
                    joinToNext(fabric, kind, t);
                }
            }
            findEvents(fabric, kind);
        }

        private void joinWithin(Fabric fabric, int kind, int t) {
            for (int q = 0; q < qubits; q++) {
                int second = fabric.weave.secondCheck[kind][q];
                int to = second == NONE ? border : t * checks + second;
                join(t * checks + fabric.weave.firstCheck[kind][q], to, fabric.weights[q]);
            }
        }

        private void joinToNext(Fabric fabric, int kind, int t) {
            for (int k = 0; k < checks; k++) {
                join(t * checks + k, (t + 1) * checks + k, fabric.lateness[kind][k]);
            }
        }

        private void join(int from, int to, int heavy) {
            if (edgeCount >= MOST_EDGES) {
                return;
            }
            lesser[edgeCount] = from;
            other[edgeCount] = to;
            weight[edgeCount] = heavy;
            link(from, edgeCount);
            link(to, edgeCount);
            edgeCount++;
        }

        /** EDGES come by their numbers, so each spot's row is in their order, as WAYS need it. */
        private void link(int spot, int e) {
            if (spot < 0 || spot >= spots || nearCount[spot] >= MOST_NEAR) {
                return;
            }
            near[spot * MOST_NEAR + nearCount[spot]] = e;
            nearCount[spot]++;
        }

        private void findEvents(Fabric fabric, int kind) {
            eventCount = 0;
            int ahead = 0;
            int loud = fabric.loudOnes(kind);
            for (int t = 0; t < layers; t++) {
                int layer = t < fabric.rounds ? fabric.readings[kind][t] : loud;
                for (int k = 0; k < checks; k++) {
                    if (((layer ^ ahead) >> k & 1) == 1) {
                        eventCheck[eventCount] = k;
                        eventLayer[eventCount] = t;
                        eventSpot[eventCount] = t * checks + k;
                        eventCount++;
                    }
                }
                ahead = layer;
            }
        }

        boolean hasEvent(int i) {
            return i >= 0 && i < eventCount;
        }

        int nearAt(int spot, int n) {
            return near[spot * MOST_NEAR + n];
        }

        int otherEnd(int e, int spot) {
            return lesser[e] == spot ? other[e] : lesser[e];
        }

        /** QUBITS for which an odd number of EDGES are 1 in the row, as bits. */
        int qubitsOf(int[] row) {
            int bits = 0;
            for (int t = 0; t < layers; t++) {
                for (int q = 0; q < qubits; q++) {
                    bits ^= row[t * (qubits + checks) + q] << q;
                }
            }
            return bits;
        }

        /** CHECKS whose EDGE from a LAYER to the next one is 1 in the row, as bits. */
        int risesOf(int[] row, int t) {
            int bits = 0;
            for (int k = 0; k < checks; k++) {
                bits |= row[t * (qubits + checks) + qubits + k] << k;
            }
            return bits;
        }
    }

    /** Shortest WAYS to one goal: weights are small, so spots are settled weight by weight. */
    private static final class Ways {
        private static final int TOO_FAR = 256;
        private static final int MOST_OFFERS = MOST_SPOTS * Net.MOST_NEAR + MOST_EDGES;

        int weight;
        int length;
        final int[] path = new int[TOO_FAR];
        private final int[] away = new int[MOST_SPOTS + 1];
        private final int[] latest = new int[TOO_FAR];
        private final int[] offered = new int[MOST_OFFERS];
        private final int[] offeredAhead = new int[MOST_OFFERS];
        private int offers;

        void seek(Net net, int start, int goal) {
            measure(net, goal, away);
            weight = away[start];
            walk(net, start, goal, away);
        }

        /** Fills the row with how far each spot is from the goal. */
        void measure(Net net, int goal, int[] row) {
            Arrays.fill(row, TOO_FAR);
            Arrays.fill(latest, NONE);
            offers = 0;
            if (goal == net.border) {
                offerFromBorder(net, row);
            } else {
                offer(row, goal, 0);
            }
            int looked = 0;
            for (int far = 0; far < TOO_FAR && looked < offers; far++) {
                int x = latest[far];
                for (int n = 0; n < MOST_OFFERS && x != NONE; n++) {
                    looked++;
                    if (row[offered[x]] == far) {
                        offerFrom(net, row, offered[x]);
                    }
                    x = offeredAhead[x];
                }
            }
        }

        private void offerFromBorder(Net net, int[] row) {
            row[net.border] = 0;
            for (int e = 0; e < net.edgeCount; e++) {
                if (net.other[e] == net.border) {
                    offer(row, net.lesser[e], net.weight[e]);
                }
            }
        }

        private void offerFrom(Net net, int[] row, int spot) {
            for (int n = 0; n < net.nearCount[spot]; n++) {
                int e = net.nearAt(spot, n);
                int to = net.otherEnd(e, spot);
                if (to != net.border) {
                    offer(row, to, row[spot] + net.weight[e]);
                }
            }
        }

        private void offer(int[] row, int spot, int far) {
            if (far >= row[spot] || far >= TOO_FAR || offers >= MOST_OFFERS) {
                return;
            }
            row[spot] = far;
            offered[offers] = spot;
            offeredAhead[offers] = latest[far];
            latest[far] = offers;
            offers++;
        }

        /** Of all shortest ways the first is the one that takes the least EDGE at each spot. */
        void walk(Net net, int start, int goal, int[] row) {
            length = 0;
            int spot = start;
            for (int n = 0; n < TOO_FAR && spot != goal; n++) {
                int e = edgeFrom(net, spot, row);
                if (e == NONE) {
                    return;
                }
                path[length] = e;
                length++;
                spot = net.otherEnd(e, spot);
            }
        }

        private static int edgeFrom(Net net, int spot, int[] row) {
            for (int n = 0; n < net.nearCount[spot]; n++) {
                int e = net.nearAt(spot, n);
                if (row[net.otherEnd(e, spot)] + net.weight[e] == row[spot]) {
                    return e;
                }
            }
            return NONE;
        }
    }

    /** The first least PAIRING of a net's EVENTS. */
    private static final class Pairing {
        private static final int UNKNOWN = -1;
        private static final int FIRST_SETS = 256;

        int count;
        int weight;
        int howMany;
        final int[] partner = new int[MOST_PAIRED];
        final int[] odd = new int[MOST_EDGES];
        private final int[] spotOf = new int[MOST_PAIRED];
        private final int[][] rows = new int[MOST_PAIRED + 1][MOST_SPOTS + 1];
        private int[] least = new int[FIRST_SETS];
        private int[] leastOnes = new int[FIRST_SETS];

        void solve(Net net, Ways ways) {
            count = Math.min(MOST_PAIRED, net.eventCount);
            for (int i = 0; i < count; i++) {
                spotOf[i] = net.eventSpot[i];
                ways.measure(net, spotOf[i], rows[i]);
            }
            ways.measure(net, net.border, rows[MOST_PAIRED]);
            int all = (1 << count) - 1;
            forgetSets(all);
            weight = leastFor(all, 0);
            howMany = leastOnes[all];
            choosePartners(all);
        }

        /** Most pairings have few EVENTS, so the rows for all sets of many are made but when needed. */
        private void forgetSets(int all) {
            if (all >= least.length) {
                least = new int[all + 1];
                leastOnes = new int[all + 1];
            }
            for (int set = 0; set <= all; set++) {
                least[set] = UNKNOWN;
            }
        }

        /** The first one left takes each partner in turn, so that few of all sets are ever met. */
        private int leastFor(int left, int depth) {
            if (left == 0 || depth > MOST_PAIRED) {
                least[0] = 0;
                leastOnes[0] = 1;
                return 0;
            }
            if (least[left] != UNKNOWN) {
                return least[left];
            }
            int i = Integer.numberOfTrailingZeros(left);
            int rest = left & (left - 1);
            int best = toBorder(i) + leastFor(rest, depth + 1);
            int many = leastOnes[rest];
            for (int j = i + 1; j < count; j++) {
                if ((rest >> j & 1) == 1) {
                    int without = rest ^ 1 << j;
                    int sum = between(i, j) + leastFor(without, depth + 1);
                    if (sum < best) {
                        best = sum;
                        many = 0;
                    }
                    many += sum == best ? leastOnes[without] : 0;
                }
            }
            least[left] = best;
            leastOnes[left] = many;
            return best;
        }

        private void choosePartners(int all) {
            int left = all;
            for (int i = 0; i < count; i++) {
                if ((left >> i & 1) == 1) {
                    int j = firstPartner(i, left);
                    partner[i] = j;
                    left &= left - 1;
                    if (j != WITH_BORDER) {
                        partner[j] = i;
                        left ^= 1 << j;
                    }
                }
            }
        }

        private int firstPartner(int i, int left) {
            int rest = left & (left - 1);
            for (int j = i + 1; j < count; j++) {
                if ((rest >> j & 1) == 1 && between(i, j) + least[rest ^ 1 << j] == least[left]) {
                    return j;
                }
            }
            return WITH_BORDER;
        }

        private int between(int i, int j) {
            return rows[j][spotOf[i]];
        }

        private int toBorder(int i) {
            return rows[MOST_PAIRED][spotOf[i]];
        }

        /** Marks EDGES on which the WAYS of the pairing go an odd number of times. */
        void trace(Net net, Ways ways) {
            Arrays.fill(odd, 0);
            for (int i = 0; i < count; i++) {
                if (partner[i] == WITH_BORDER) {
                    ways.walk(net, spotOf[i], net.border, rows[MOST_PAIRED]);
                    flipAlong(ways);
                } else if (partner[i] > i) {
                    ways.walk(net, spotOf[i], spotOf[partner[i]], rows[partner[i]]);
                    flipAlong(ways);
                }
            }
        }

        private void flipAlong(Ways ways) {
            for (int n = 0; n < ways.length; n++) {
                odd[ways.path[n]] ^= 1;
            }
        }
    }

    /** CLUMPS that grow, the FOREST of what is whole, and what is PEELED of it. */
    private static final class Growth {
        private static final int MOST_GROWING = 100000;

        int steps;
        int wholeCount;
        int forestCount;
        int peeledCount;
        int weight;
        final int[] peeled = new int[MOST_EDGES];
        private final int[] grownBy = new int[MOST_EDGES];
        private final int[] whole = new int[MOST_EDGES];
        private final int[] above = new int[MOST_SPOTS + 1];
        private final int[] odd = new int[MOST_SPOTS + 1];
        private final int[] open = new int[MOST_SPOTS + 1];
        private final int[] branches = new int[MOST_SPOTS + 1];
        private final int[] branchSum = new int[MOST_SPOTS + 1];

        void growClumps(Net net) {
            Arrays.fill(grownBy, 0);
            Arrays.fill(whole, 0);
            wholeCount = 0;
            partAll(net);
            markEvents(net);
            steps = 0;
            while (steps < MOST_GROWING && findOpen(net)) {
                growEdges(net);
                joinWhole(net);
                steps++;
            }
        }

        private void partAll(Net net) {
            for (int spot = 0; spot <= net.border; spot++) {
                above[spot] = spot;
            }
        }

        private void markEvents(Net net) {
            Arrays.fill(odd, 0);
            for (int i = 0; i < net.eventCount; i++) {
                odd[net.eventSpot[i]] = 1;
            }
        }

        private int rootOf(int spot) {
            int root = spot;
            for (int n = 0; n <= MOST_SPOTS && above[root] != root; n++) {
                above[root] = above[above[root]];
                root = above[root];
            }
            return root;
        }

        private boolean findOpen(Net net) {
            int borderRoot = rootOf(net.border);
            int some = 0;
            for (int spot = 0; spot < net.spots; spot++) {
                int root = rootOf(spot);
                open[spot] = root == borderRoot ? 0 : odd[root];
                some |= open[spot];
            }
            open[net.border] = 0;
            return some == 1;
        }

        private void growEdges(Net net) {
            for (int e = 0; e < net.edgeCount; e++) {
                if (whole[e] == 0) {
                    grownBy[e] += open[net.lesser[e]] + open[net.other[e]];
                }
            }
        }

        private void joinWhole(Net net) {
            for (int e = 0; e < net.edgeCount; e++) {
                if (whole[e] == 0 && grownBy[e] >= 2 * net.weight[e]) {
                    whole[e] = 1;
                    wholeCount++;
                    joinEnds(net, e);
                }
            }
        }

        /** Whether the ends were apart. */
        private boolean joinEnds(Net net, int e) {
            int a = rootOf(net.lesser[e]);
            int b = rootOf(net.other[e]);
            if (a == b) {
                return false;
            }
            above[a] = b;
            odd[b] ^= odd[a];
            return true;
        }

        void layForest(Net net) {
            Arrays.fill(branches, 0);
            Arrays.fill(branchSum, 0);
            forestCount = 0;
            partAll(net);
            for (int e = 0; e < net.edgeCount; e++) {
                if (whole[e] == 1 && joinEnds(net, e)) {
                    forestCount++;
                    addBranch(net.lesser[e], e);
                    addBranch(net.other[e], e);
                }
            }
        }

        /** The sum without carry tells a leaf's only branch. */
        private void addBranch(int spot, int e) {
            branches[spot]++;
            branchSum[spot] ^= e;
        }

        void peelForest(Net net) {
            Arrays.fill(peeled, 0);
            peeledCount = 0;
            weight = 0;
            markEvents(net);
            for (int spot = 0; spot < net.spots; spot++) {
                int leaf = spot;
                for (int n = 0; n <= net.spots && isLeaf(net, leaf); n++) {
                    leaf = peelLeaf(net, leaf);
                }
            }
        }

        /** The BORDER is never one: what lies behind a branch is its side without the BORDER. */
        private boolean isLeaf(Net net, int spot) {
            return spot != net.border && branches[spot] == 1;
        }

        private int peelLeaf(Net net, int leaf) {
            int e = branchSum[leaf];
            int next = net.otherEnd(e, leaf);
            branches[leaf] = 0;
            branches[next]--;
            branchSum[next] ^= e;
            if (odd[leaf] == 1) {
                odd[next] ^= 1;
                peeled[e] = 1;
                peeledCount++;
                weight += net.weight[e];
            }
            return next;
        }
    }

    /** Sets that look LIKE others: they differ by faces of the other KIND, and by a chain. */
    private static final class Likes {
        private static final int TOO_MUCH = -1;
        private static final long MOST_LONG = 9223372036854775807L;
        private static final int TOO_HEAVY = 1000;

        final int[] ofSize = new int[MOST_QUBITS + 1];
        private final int[] weightOf = new int[MOST_SIZE * 32];
        private int best;
        private int bestWeight;

        void countSizes(Fabric fabric, int kind, int logical) {
            Weave weave = fabric.weave;
            Arrays.fill(ofSize, 0);
            int set = fabric.slips[kind];
            if (weave.logicalOf(kind, set) != logical) {
                set ^= weave.chainBits[kind];
            }
            ofSize[Integer.bitCount(set)]++;
            int many = 1 << weave.checks;
            for (int n = 1; n < many; n++) {
                set ^= weave.faceBits[1 - kind][Integer.numberOfTrailingZeros(n)];
                ofSize[Integer.bitCount(set)]++;
            }
        }

        int leastSize(int qubits) {
            for (int n = 0; n <= qubits; n++) {
                if (ofSize[n] > 0) {
                    return n;
                }
            }
            return NONE;
        }

        /** By the sizes counted last; NONE if it is more than a long holds. */
        long chances(int qubits, int a, int b) {
            long sum = 0;
            for (int n = 0; n <= qubits; n++) {
                long each = times(power(a, n), power(b, qubits - n));
                long all = times(ofSize[n], each);
                if (all == TOO_MUCH || all > MOST_LONG - sum) {
                    return NONE;
                }
                sum += all;
            }
            return sum;
        }

        private static long power(int a, int n) {
            long product = 1;
            for (int i = 0; i < n; i++) {
                product = times(product, a);
            }
            return product;
        }

        /** Nothing of it is nothing, even of what is too much. */
        private static long times(long x, long y) {
            if (x == 0 || y == 0) {
                return 0;
            }
            if (x == TOO_MUCH || y == TOO_MUCH || x > MOST_LONG / y) {
                return TOO_MUCH;
            }
            return x * y;
        }

        int lightestSet(Fabric fabric, int kind) {
            int set = fabric.slips[kind];
            weighRows(fabric);
            seekLightest(fabric.weave, kind, set);
            seekLightest(fabric.weave, kind, set ^ fabric.weave.chainBits[kind]);
            return best;
        }

        int leastChain(Fabric fabric, int kind) {
            weighRows(fabric);
            seekLightest(fabric.weave, kind, fabric.weave.chainBits[kind]);
            return bestWeight;
        }

        /** Weights of five QUBITS at a time: a set is then weighed by five looks. */
        private void weighRows(Fabric fabric) {
            best = NONE;
            bestWeight = TOO_HEAVY;
            for (int five = 0; five < MOST_SIZE; five++) {
                weightOf[five * 32] = 0;
                for (int bits = 1; bits < 32; bits++) {
                    int q = five * 5 + Integer.numberOfTrailingZeros(bits);
                    weightOf[five * 32 + bits] = weightOf[five * 32 + (bits & (bits - 1))] + fabric.weights[q];
                }
            }
        }

        private void seekLightest(Weave weave, int kind, int from) {
            int set = from;
            lookAt(set);
            int many = 1 << weave.checks;
            for (int n = 1; n < many; n++) {
                set ^= weave.faceBits[1 - kind][Integer.numberOfTrailingZeros(n)];
                lookAt(set);
            }
        }

        private void lookAt(int set) {
            int weight = weightOf[set & 31] + weightOf[32 + (set >> 5 & 31)] + weightOf[64 + (set >> 10 & 31)]
                    + weightOf[96 + (set >> 15 & 31)] + weightOf[128 + (set >> 20 & 31)];
            if (weight < bestWeight || (weight == bestWeight && set < best)) {
                bestWeight = weight;
                best = set;
            }
        }
    }

    /** What calls told last: it stays whatever becomes of the CODE. */
    private static final class Told {
        int paired;
        final int[] partners = new int[MOST_PAIRED];
        boolean hasGrown;
        final int[] growth = new int[4];
        int peeledCount;
        final int[] peeled = new int[MOST_EDGES];
        int signCount;
        final int[] signs = new int[2 * MOST_SIZE + 1];

        void keepPairing(Pairing pairing) {
            paired = pairing.count;
            System.arraycopy(pairing.partner, 0, partners, 0, MOST_PAIRED);
        }

        void keepGrowth(Growth latest, Net net) {
            hasGrown = true;
            growth[0] = latest.steps;
            growth[1] = latest.wholeCount;
            growth[2] = latest.forestCount;
            growth[3] = latest.peeledCount;
            peeledCount = 0;
            for (int e = 0; e < net.edgeCount; e++) {
                if (latest.peeled[e] == 1) {
                    peeled[peeledCount] = e;
                    peeledCount++;
                }
            }
        }

        void drawLine(Fabric fabric, int r) {
            signCount = 2 * fabric.weave.size + 1;
            Arrays.fill(signs, ' ');
            if (r % 2 == 0) {
                drawChecks(fabric, 0, r / 2);
                drawChecks(fabric, 1, r / 2);
            } else {
                drawQubits(fabric, r / 2);
            }
        }

        private void drawChecks(Fabric fabric, int kind, int row) {
            int loud = fabric.loudOnes(kind);
            for (int k = 0; k < fabric.weave.checks; k++) {
                if (fabric.weave.faceRow[kind][k] == row) {
                    boolean isLoud = (loud >> k & 1) == 1;
                    int sign = kind == 0 ? 'b' : 'p';
                    signs[2 * fabric.weave.faceColumn[kind][k]] = isLoud ? sign - 'a' + 'A' : sign;
                }
            }
        }

        private void drawQubits(Fabric fabric, int row) {
            for (int column = 0; column < fabric.weave.size; column++) {
                int q = row * fabric.weave.size + column;
                int bit = fabric.slips[0] >> q & 1;
                int phase = fabric.slips[1] >> q & 1;
                int sign = bit == 1 ? '+' : '.';
                if (phase == 1) {
                    sign = bit == 1 ? '*' : '-';
                }
                signs[2 * column + 1] = sign;
            }
        }
    }
}
