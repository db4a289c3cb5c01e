import java.io.IOException;

/** Each sentence of the promises that names a bound, on both sides of it. */
public final class PromiseBoundsTest {
    private static final Due DUE = new Due("PromiseBoundsTest");
    private static final int LOW = Integer.MIN_VALUE;
    private static final int HIGH = Integer.MAX_VALUE;
    private static final int[] SIZES = {3, 5};
    private static final int[] NO_KINDS = {-1, 2, LOW, HIGH};
    private static Document doc;

    public static void main(String[] args) throws IOException {
        doc = new Document(DUE);
        newObject();
        feed();
        end();
        code();
        work();
        fault();
        now();
        check();
        qubit();
        reading();
        events();
        event();
        far();
        way();
        pair();
        partner();
        pairings();
        grow();
        grown();
        peeledAt();
        blame();
        edges();
        edge();
        correction();
        result();
        correct();
        distance();
        like();
        odds();
        press();
        chain();
        line();
        byteAt();
        fewest();
        drawn();
        often();
        oftenBeyondFourteen();
        undo();
        undone();
        image();
        restore();
        doc.allPromisesAreNamed();
        DUE.close();
    }

    private static WovenKeeper of(int size, String... texts) {
        WovenKeeper x = new WovenKeeper();
        x.code(size);
        for (String text : texts) {
            DUE.is("a work() without fault: " + text, Tape.work(x, text) >= 0, true);
        }
        return x;
    }

    private static void is(WovenKeeper x, long due, String name, int... args) {
        Call call = new Call(name, args);
        DUE.is(call.toString(), call.on(x), due);
    }

    private static void refused(WovenKeeper x, String name, int... args) {
        Call call = new Call(name, args);
        is(x, call.refusal(), name, args);
    }

    private static void feedBlanks(WovenKeeper x, int times) {
        for (int n = 0; n < times; n++) {
            x.feed(0x20202020, 0x20202020, 0x20202020, 0x20202020, 0x20202020);
        }
    }

    private static void newObject() {
        doc.promise(1, "A CODE of SIZE 3, without SLIPS, ROUNDS; an empty tape.");
        WovenKeeper x = new WovenKeeper();
        int[] due = {3, 0, 4, 0, 0, 0, 0, 0, 0, 0};
        for (int what = 0; what < 10; what++) {
            is(x, due[what], "now", what);
        }
        is(x, 0, "events", 0);
        is(x, 0, "events", 1);
        refused(x, "reading", 0, 0);
        refused(x, "end", 1);
        is(x, 0, "fault");
        refused(x, "undo");
        refused(x, "restore", 0);
        refused(x, "restore", 1);
    }

    private static void feed() {
        doc.promise(2, "Twenty bytes come behind the tape, of each number the highest first: how many it has");
        // "bit 1 2;" over two numbers, and all twenty places in their order
        WovenKeeper x = new WovenKeeper();
        is(x, 20, "feed", 0x62697420, 0x3120323b, 0x62697420, 0x3020303b, 0x20202020);
        is(x, 40, "feed", 0x20202020, 0x20202020, 0x20202020, 0x20202020, 0x20202078);
        is(x, -1039, "work");
        is(x, 20, "feed", 0x62697420, 0x3120323b, 0x62697420, 0x3020303b, 0x20202020);
        is(x, 2, "work");
        is(x, 32 | 1, "now", 3);
        // bytes above 127, in each place of a number
        for (int place = 0; place < 4; place++) {
            x.feed(0x20202020 & ~(255 << 24 - 8 * place) | 200 << 24 - 8 * place, -1, -1, -1, -1);
            is(x, -1000 - place, "work");
        }
        doc.promise(2, "NONE, and none come, if it would have more than 240.");
        x = new WovenKeeper();
        feedBlanks(x, 11);
        is(x, 220, "now", 9);
        is(x, 240, "feed", 0, 0, 0, 0, 0);
        refused(x, "feed", 0, 0, 0, 0, 0);
        is(x, 240, "now", 9);
        for (int n = 221; n <= 240; n++) {
            x = new WovenKeeper();
            feedBlanks(x, 12);
            x.end(n);
            refused(x, "feed", -1, -1, -1, -1, -1);
            is(x, n, "now", 9);
            x.end(200);
            is(x, 0, "work");
        }
        // what is refused has not come into the rest of the tape, either
        x = new WovenKeeper();
        feedBlanks(x, 12);
        x.end(181);
        is(x, 201, "feed", 0x20202020, 0x20202020, 0x20202020, 0x20202020, 0x20202078);
        x.end(200);
        is(x, 0, "work");
    }

    private static void end() {
        doc.promise(3, "The tape has its first n bytes alone: true; false, if it has not so many, or n is below 0.");
        WovenKeeper x = new WovenKeeper();
        is(x, 1, "end", 0);
        for (int n : new int[] {1, -1, 240, LOW, HIGH}) {
            refused(x, "end", n);
        }
        feedBlanks(x, 12);
        refused(x, "end", 241);
        is(x, 240, "now", 9);
        is(x, 1, "end", 240);
        is(x, 240, "now", 9);
        is(x, 1, "end", 239);
        is(x, 239, "now", 9);
        refused(x, "end", 240);
        refused(x, "end", -1);
        is(x, 239, "now", 9);
        is(x, 1, "end", 1);
        is(x, 1, "now", 9);
        is(x, 1, "end", 0);
        is(x, 0, "now", 9);
        refused(x, "end", 1);
        // what is cut off does not come back
        x.feed(0x62697420, 0x3120313b, 0x62697420, 0x3020303b, 0);
        x.end(8);
        x.feed(0x20202020, 0x20202020, 0x20202020, 0x20202020, 0x20202020);
        is(x, 1, "work");
        is(x, 16, "now", 3);
        // what stood behind the end is not read: the rest of a number, of a word, blanks
        cut("bit 1 12;", 7, -1007, 1);
        cut("bit 1 1     ;", 7, -1007, 1);
        cut("bits", 3, -1003, 1);
        cut("bit 1 1;x", 8, 1, 0);
        cut("bit 1 1; x", 9, 1, 0);
    }

    private static void cut(String text, int n, int due, int kind) {
        WovenKeeper x = new WovenKeeper();
        Tape.put(x, text);
        x.end(n);
        is(x, due, "work");
        is(x, kind, "fault");
    }

    private static void code() {
        doc.promise(4, "A new CODE of that SIZE (nothing can be undone): how many QUBITS; NONE: no such SIZE, all stays.");
        WovenKeeper x = of(5, "both 4 4;round;miss bit 11;weigh 4 4 9;late phase 11 8;");
        for (int size : new int[] {4, 2, 6, 0, 1, 7, -3, -5, LOW, HIGH}) {
            refused(x, "code", size);
        }
        is(x, 5, "now", 0);
        is(x, 1, "now", 1);
        is(x, 1 << 24, "now", 3);
        is(x, 1 << 11, "now", 7);
        is(x, 9, "qubit", 24, 0);
        is(x, 8, "check", 1, 11, 3);
        is(x, 0, "undo");
        x.chain(0);
        is(x, 9, "code", 3);
        refused(x, "undo");
        x = of(5, "both 4 4;round;miss bit 11;weigh 4 4 9;late phase 11 8;");
        is(x, 25, "code", 5);
        for (int what = 1; what < 10; what++) {
            is(x, what == 2 ? 12 : 0, "now", what);
        }
        is(x, 1, "qubit", 24, 0);
        is(x, 1, "check", 1, 11, 3);
        refused(x, "reading", 0, 0);
        refused(x, "undo");
    }

    private static void work() {
        doc.promise(5, "The tape (empty then, with a FAULT, too) is WORK");
        WovenKeeper x = new WovenKeeper();
        is(x, 0, "work");
        Tape.put(x, "bit 0 0;");
        is(x, 8, "now", 9);
        is(x, 1, "work");
        is(x, 0, "now", 9);
        is(x, 0, "work");
        is(x, 1, "now", 3);
        Tape.put(x, "bit 0 0");
        is(x, -1007, "work");
        is(x, 0, "now", 9);
        feedBlanks(x, 12);
        is(x, -1200, "work");
        is(x, 0, "now", 9);
        is(x, 0, "work");
        doc.promise(5, "how many were done ('round' behind the 8th, again are not counted); -1000 less the place of a FAULT: none is.");
        x = new WovenKeeper();
        DUE.is("seven and a slip", Tape.work(x, "again 7[round;];again 1[bit 0 0;];"), 8);
        DUE.is("the 8th and the 9th", Tape.work(x, "round;round;"), 1);
        DUE.is("the 10th", Tape.work(x, "round;"), 0);
        DUE.is("a fault at 0", Tape.work(x, "#"), -1000);
        DUE.is("a fault at 1", Tape.work(x, " #"), -1001);
        DUE.is("a fault at 199", Tape.work(x, "bit 1 1;" + " ".repeat(191) + "#"), -1199);
        DUE.is("a fault at 200", Tape.work(x, "bit 1 1;" + " ".repeat(193)), -1200);
        is(x, 1, "now", 3);
        is(x, 2, "undo");
    }

    private static void fault() {
        doc.promise(6, "The kind of the FAULT of the latest work(); 0 without one and ahead of any.");
        WovenKeeper x = new WovenKeeper();
        is(x, 0, "fault");
        Tape.work(x, "bit");
        is(x, 1, "fault");
        x.undo();
        x.code(3);
        is(x, 1, "fault");
        Tape.work(x, "bit 3 0;");
        is(x, 2, "fault");
        Tape.work(x, "round;".repeat(31));
        is(x, 3, "fault");
        Tape.work(x, "again 1[again 1[again 1[");
        is(x, 4, "fault");
        x.work();
        is(x, 0, "fault");
    }

    private static void now() {
        doc.promise(7, "NONE for another what.");
        for (int d : SIZES) {
            WovenKeeper x = of(d, "both 0 0;miss bit 1;miss phase 2;");
            x.feed(0, 0, 0, 0, 0);
            int[] due = {d, 0, (d * d - 1) / 2, 1, 1, 1, 1, 2, 4, 20};
            for (int what = 0; what < 10; what++) {
                is(x, due[what], "now", what);
            }
            for (int what : new int[] {-1, 10, 11, LOW, HIGH}) {
                refused(x, "now", what);
            }
        }
        doc.promise(7, "3, 4 SLIPS of KIND 0, 1 as bits (QUBIT 0 the lowest)");
        is(of(5, "bit 0 0;bit 4 4;"), 1 | 1 << 24, "now", 3);
        is(of(5, "phase 0 0;phase 4 4;"), 1 | 1 << 24, "now", 4);
        // all of them: rows 0 to 4, five by five
        WovenKeeper x = of(5);
        for (int row = 0; row < 5; row++) {
            StringBuilder text = new StringBuilder();
            for (int column = 0; column < 5; column++) {
                text.append("both ").append(row).append(' ').append(column).append(';');
            }
            Tape.work(x, text.toString());
        }
        is(x, (1 << 25) - 1, "now", 3);
        is(x, (1 << 25) - 1, "now", 4);
        is(x, 0, "now", 5);
        is(x, 0, "now", 6);
    }

    private static void check() {
        doc.promise(8, "Of a CHECK: 0, 1 its FACE, 2 QUBITS on it as bits, 3 LATENESS. NoSuchElementException: no such ones.");
        for (int d : SIZES) {
            WovenKeeper x = of(d);
            int last = (d * d - 1) / 2 - 1;
            is(x, 1, "check", 0, 0, 0);
            is(x, 1, "check", 0, 0, 1);
            is(x, 1 | 2 | 1 << d | 2 << d, "check", 0, 0, 2);
            is(x, 1, "check", 0, 0, 3);
            is(x, d, "check", 1, last, 0);
            is(x, d - 1, "check", 1, last, 1);
            is(x, 3 << d * d - 2, "check", 1, last, 2);
            is(x, 1, "check", 1, last, 3);
            for (int what : new int[] {-1, 4, LOW, HIGH}) {
                refused(x, "check", 0, 0, what);
            }
            for (int k : new int[] {-1, last + 1, LOW, HIGH}) {
                refused(x, "check", 0, k, 0);
                refused(x, "check", 1, k, 3);
            }
            for (int kind : NO_KINDS) {
                refused(x, "check", kind, 0, 0);
            }
        }
    }

    private static void qubit() {
        doc.promise(9, "Of a QUBIT: 0 WEIGHT, 1, 2 CHECKS of KIND 0, 1 that it is on as bits. NoSuchElementException: no such ones.");
        for (int d : SIZES) {
            WovenKeeper x = of(d);
            int last = (d * d - 1) / 2 - 1;
            is(x, 1, "qubit", 0, 0);
            is(x, 1, "qubit", 0, 1);
            is(x, 1, "qubit", 0, 2);
            is(x, 1, "qubit", d * d - 1, 0);
            is(x, 1 << last, "qubit", d * d - 1, 1);
            is(x, 1 << last, "qubit", d * d - 1, 2);
            for (int what : new int[] {-1, 3, LOW, HIGH}) {
                refused(x, "qubit", 0, what);
            }
            for (int q : new int[] {-1, d * d, LOW, HIGH}) {
                refused(x, "qubit", q, 0);
                refused(x, "qubit", q, 2);
            }
        }
    }

    private static void reading() {
        doc.promise(10, "CHECKS of a KIND that were read as LOUD in a ROUND (from 0) as bits; NONE: no such ones.");
        WovenKeeper x = of(5, "bit 0 0;miss phase 11;");
        refused(x, "reading", 0, 0);
        for (int rounds = 1; rounds <= 8; rounds++) {
            Tape.work(x, "round;");
            is(x, 1, "reading", 0, 0);
            is(x, 1 << 11, "reading", 1, 0);
            is(x, 1, "reading", 0, rounds - 1);
            refused(x, "reading", 0, rounds);
            refused(x, "reading", 1, rounds);
            refused(x, "reading", 0, -1);
        }
        for (int kind : NO_KINDS) {
            refused(x, "reading", kind, 0);
        }
        refused(x, "reading", 0, LOW);
        refused(x, "reading", 0, HIGH);
    }

    private static void events() {
        doc.promise(11, "EVENTS of a KIND: how many; NONE: no such KIND.");
        WovenKeeper x = of(3);
        is(x, 0, "events", 0);
        is(x, 0, "events", 1);
        Tape.work(x, "bit 0 0;phase 1 1;");
        is(x, 1, "events", 0);
        is(x, 2, "events", 1);
        for (int kind : NO_KINDS) {
            refused(x, "events", kind);
        }
    }

    private static void event() {
        doc.promise(12, "Of EVENT i of a KIND: its CHECK (0), its LAYER (1); NONE: no such ones.");
        WovenKeeper x = of(3, "round;bit 1 1;");
        is(x, 0, "event", 0, 0, 0);
        is(x, 1, "event", 0, 0, 1);
        is(x, 3, "event", 0, 1, 0);
        is(x, 1, "event", 0, 1, 1);
        for (int i : new int[] {-1, 2, LOW, HIGH}) {
            refused(x, "event", 0, i, 0);
            refused(x, "event", 0, i, 1);
        }
        for (int what : new int[] {-1, 2, LOW, HIGH}) {
            refused(x, "event", 0, 0, what);
        }
        for (int kind : NO_KINDS) {
            refused(x, "event", kind, 0, 0);
        }
        refused(x, "event", 1, 0, 0);
    }

    private static void far() {
        doc.promise(13, "The weight of the WAY from EVENT i to EVENT j, or to the BORDER (j NONE); NONE: no such ones, one of itself.");
        WovenKeeper x = of(3, "bit 1 1;");
        is(x, 1, "far", 0, 0, 1);
        is(x, 1, "far", 0, 1, 0);
        is(x, 1, "far", 0, 0, -1);
        is(x, 1, "far", 0, 1, -1);
        refused(x, "far", 0, 0, 0);
        refused(x, "far", 0, 1, 1);
        for (int i : new int[] {-1, -2, 2, LOW, HIGH}) {
            refused(x, "far", 0, i, 0);
            refused(x, "far", 0, i, -1);
        }
        for (int j : new int[] {-2, 2, LOW, HIGH}) {
            refused(x, "far", 0, 0, j);
        }
        for (int kind : NO_KINDS) {
            refused(x, "far", kind, 0, 1);
        }
        refused(x, "far", 1, 0, -1);
        // as heavy as can be: both corners, all rounds
        StringBuilder heavy = new StringBuilder("bit 0 0;again 8[round;];bit 2 1;");
        for (int q = 0; q < 9; q++) {
            heavy.append("weigh ").append(q / 3).append(' ').append(q % 3).append(" 9;");
        }
        x = of(3, heavy.toString(), "late bit 0 9;late bit 1 9;late bit 2 9;late bit 3 9;");
        is(x, 81, "far", 0, 0, 1);
        is(x, 9, "far", 0, 0, -1);
    }

    private static void way() {
        doc.promise(14, "That WAY's k-th EDGE from EVENT i on (from 0); NONE: no such ones.");
        WovenKeeper x = of(3, "bit 0 0;round;bit 2 1;");
        is(x, 4, "way", 0, 0, 1, 0);
        is(x, 12, "way", 0, 0, 1, 1);
        is(x, 12, "way", 0, 1, 0, 0);
        is(x, 4, "way", 0, 1, 0, 1);
        is(x, 0, "way", 0, 0, -1, 0);
        for (int k : new int[] {-1, 2, LOW, HIGH}) {
            refused(x, "way", 0, 0, 1, k);
        }
        refused(x, "way", 0, 0, -1, 1);
        refused(x, "way", 0, 0, 0, 0);
        refused(x, "way", 0, 2, 0, 0);
        refused(x, "way", 0, 0, 2, 0);
        refused(x, "way", 0, 0, -2, 0);
        refused(x, "way", 0, -1, 0, 0);
        for (int kind : NO_KINDS) {
            refused(x, "way", kind, 0, 1, 0);
        }
        refused(x, "way", 1, 0, -1, 0);
    }

    /** So many events of bits, up to sixteen, in size 5. */
    private static WovenKeeper eventful(int many) {
        String half = many / 2 == 0 ? "" : "again " + many / 2 + "[bit 0 0;bit 4 4;round;];";
        WovenKeeper x = of(5, half + (many % 2 == 1 ? "bit 0 2;" : ""));
        DUE.is("events that there are", x.events(0), many);
        return x;
    }

    private static void pair() {
        doc.promise(15, "PAIRING: the weight of all WAYS; NONE: no such KIND, more than 14 EVENTS.");
        is(eventful(0), 0, "pair", 0);
        is(eventful(1), 1, "pair", 0);
        is(eventful(12), 6, "pair", 0);
        is(eventful(13), 7, "pair", 0);
        is(eventful(14), 8, "pair", 0);
        refused(eventful(15), "pair", 0);
        refused(eventful(16), "pair", 0);
        for (int kind : NO_KINDS) {
            refused(eventful(14), "pair", kind);
        }
    }

    private static void partner() {
        doc.promise(16, "With which EVENT it pairs EVENT i (-2: the BORDER), by the latest pair() that was not NONE; NONE: no such EVENT then, ahead of any.");
        WovenKeeper x = eventful(14);
        refused(x, "partner", 0);
        x.pairings(0);
        x.correction(0, 0);
        x.blame(0, 0, 0);
        refused(x, "partner", 0);
        x.pair(0);
        is(x, 2, "partner", 0);
        is(x, -2, "partner", 13);
        for (int i : new int[] {-1, -2, 14, 15, LOW, HIGH}) {
            refused(x, "partner", i);
        }
        // one that was NONE tells nothing new, nor does anything else
        Tape.work(x, "bit 2 2;");
        x.pair(0);
        x.pair(2);
        x.undo();
        x.code(3);
        is(x, 2, "partner", 0);
        is(x, -2, "partner", 13);
        x.pair(0);
        refused(x, "partner", 0);
    }

    private static void pairings() {
        doc.promise(17, "How many PAIRINGS there are of that weight (as sets of pairs); NONE: as for pair().");
        is(eventful(0), 1, "pairings", 0);
        is(eventful(1), 1, "pairings", 0);
        DUE.is("pairings of 14", eventful(14).pairings(0) >= 1, true);
        refused(eventful(15), "pairings", 0);
        refused(eventful(16), "pairings", 0);
        for (int kind : NO_KINDS) {
            refused(eventful(0), "pairings", kind);
        }
        // two at once: with one another for 2, or each with the border for 1
        is(of(3, "bit 1 1;weigh 1 1 2;weigh 1 0 9;weigh 1 2 9;"), 2, "pairings", 0);
        is(of(3, "bit 1 1;weigh 1 1 3;weigh 1 0 9;weigh 1 2 9;"), 1, "pairings", 0);
        // six like ways to a border are one pairing
        is(of(3, "bit 0 0;"), 1, "pairings", 0);
    }

    private static void grow() {
        doc.promise(18, "GROWN: the weight of all EDGES that are PEELED; NONE: no such KIND.");
        is(of(3), 0, "grow", 0);
        is(of(3, "bit 0 0;weigh 0 0 9;weigh 0 1 9;weigh 1 0 9;weigh 1 1 9;"), 9, "grow", 0);
        for (int many = 14; many <= 16; many++) {
            DUE.is("grow(0) of " + many, eventful(many).grow(0) > 0, true);
        }
        for (int kind : NO_KINDS) {
            refused(of(3), "grow", kind);
        }
    }

    private static void grown() {
        doc.promise(19, "NONE for another what, and ahead of any.");
        WovenKeeper x = of(3, "bit 0 0;");
        for (int what = -1; what <= 4; what++) {
            refused(x, "grown", what);
        }
        x.grow(2);
        x.correction(0, 1);
        x.blame(0, 1, 0);
        refused(x, "grown", 0);
        x.grow(0);
        int[] due = {2, 4, 3, 1};
        for (int what = 0; what < 4; what++) {
            is(x, due[what], "grown", what);
        }
        for (int what : new int[] {-1, 4, LOW, HIGH}) {
            refused(x, "grown", what);
        }
        doc.promise(19, "How many steps it took, by the latest grow() that was not NONE (0)");
        x.grow(-1);
        x.code(5);
        x.correct(0, 1);
        is(x, 2, "grown", 0);
        x.grow(0);
        for (int what = 0; what < 4; what++) {
            is(x, 0, "grown", what);
        }
    }

    private static void peeledAt() {
        doc.promise(20, "The k-th PEELED EDGE (from 0, by numbers) by that; NONE: none such, ahead of any.");
        WovenKeeper x = of(3, "miss bit 0;round;miss phase 0;round;bit 0 2;");
        refused(x, "peeledAt", 0);
        x.grow(2);
        refused(x, "peeledAt", 0);
        x.grow(0);
        is(x, 2, "grown", 3);
        DUE.is("by numbers", x.peeledAt(0) < x.peeledAt(1), true);
        for (int k : new int[] {-1, 2, LOW, HIGH}) {
            refused(x, "peeledAt", k);
        }
        x.grow(1);
        is(x, 1, "grown", 3);
        is(x, 13 + 9, "peeledAt", 0);
        refused(x, "peeledAt", 1);
        x.code(3);
        x.grow(2);
        is(x, 22, "peeledAt", 0);
        x.grow(0);
        refused(x, "peeledAt", 0);
    }

    private static void blame() {
        doc.promise(21, "NONE: no such ones, more than 14 EVENTS (how 0).");
        WovenKeeper x = of(3, "bit 0 0;");
        refused(x, "blame", 0, 0, 0);
        refused(x, "blame", 0, 1, 0);
        Tape.work(x, "bit 0 0;miss bit 3;round;miss bit 0;round;");
        for (int how = 0; how < 2; how++) {
            is(x, 8, "blame", 0, how, 0);
            is(x, 1, "blame", 0, how, 1);
            is(x, 0, "blame", 1, how, 1);
            for (int round : new int[] {-1, 2, LOW, HIGH}) {
                refused(x, "blame", 0, how, round);
            }
        }
        for (int how : new int[] {-1, 2, LOW, HIGH}) {
            refused(x, "blame", 0, how, 0);
        }
        for (int kind : NO_KINDS) {
            refused(x, "blame", kind, 0, 0);
            refused(x, "blame", kind, 1, 0);
        }
        DUE.is("of fourteen", eventful(14).blame(0, 0, 0) >= 0, true);
        refused(eventful(15), "blame", 0, 0, 0);
        DUE.is("of fifteen, by what is peeled", eventful(15).blame(0, 1, 0) >= 0, true);
        DUE.is("of none, of the other kind", eventful(15).blame(1, 0, 0), 0);
    }

    private static void edges() {
        doc.promise(22, "EDGES of a KIND: how many; NONE: no such KIND.");
        is(of(3), 9, "edges", 0);
        is(of(5), 25, "edges", 1);
        is(of(3, "again 8[round;];"), 9 * 9 + 8 * 4, "edges", 1);
        is(of(5, "again 8[round;];"), 9 * 25 + 8 * 12, "edges", 0);
        for (int kind : NO_KINDS) {
            refused(of(3), "edges", kind);
        }
    }

    private static void edge() {
        doc.promise(23, "its SPOTS, the lesser (0), the other (1; NONE: the BORDER), each as its LAYER times K and its CHECK; its weight (2). NoSuchElementException: no such ones.");
        for (int d : SIZES) {
            int k = (d * d - 1) / 2;
            for (int rounds = 0; rounds <= 8; rounds += 4) {
                WovenKeeper x = of(d, "late phase 0 4;");
                if (rounds > 0) {
                    x.drawn(rounds, 0, 0);
                }
                int last = (rounds + 1) * d * d + rounds * k - 1;
                for (int kind = 0; kind < 2; kind++) {
                    is(x, 0, "edge", kind, 0, 0);
                    is(x, -1, "edge", kind, 0, 1);
                    is(x, 1, "edge", kind, 0, 2);
                    is(x, rounds * k + k - 1, "edge", kind, last, 0);
                    is(x, -1, "edge", kind, last, 1);
                    refused(x, "edge", kind, last + 1, 0);
                    refused(x, "edge", kind, -1, 0);
                    refused(x, "edge", kind, 0, 3);
                    refused(x, "edge", kind, 0, -1);
                }
                if (rounds > 0) {
                    int rise = (rounds - 1) * (d * d + k) + d * d;
                    is(x, (rounds - 1) * k, "edge", 1, rise, 0);
                    is(x, rounds * k, "edge", 1, rise, 1);
                    is(x, 4, "edge", 1, rise, 2);
                }
            }
            for (int kind : NO_KINDS) {
                refused(of(d), "edge", kind, 0, 0);
            }
            refused(of(d), "edge", 0, LOW, HIGH);
            refused(of(d), "edge", 0, HIGH, LOW);
        }
    }

    private static void correction() {
        doc.promise(24, "CORRECTION by PAIRING (how 0), by what is PEELED (1), LIGHTEST (2), as bits; NONE: no such ones, more than 14 EVENTS (how 0).");
        for (int how = 0; how < 3; how++) {
            is(of(5), 0, "correction", 0, how);
            is(of(5, "phase 4 4;"), 1 << 24, "correction", 1, how);
            for (int kind : NO_KINDS) {
                refused(of(5), "correction", kind, how);
            }
        }
        for (int how : new int[] {-1, 3, LOW, HIGH}) {
            refused(of(5), "correction", 0, how);
        }
        DUE.is("of fourteen", eventful(14).correction(0, 0) >= 0, true);
        refused(eventful(15), "correction", 0, 0);
        DUE.is("of fifteen, by what is peeled", eventful(15).correction(0, 1) >= 0, true);
        DUE.is("of fifteen, the lightest", eventful(15).correction(0, 2) >= 0, true);
        is(eventful(15), 0, "correction", 1, 0);
    }

    private static void result() {
        doc.promise(25, "RESULT; NONE: as for correction().");
        for (int how = 0; how < 3; how++) {
            WovenKeeper x = of(5);
            is(x, 0, "result", 0, how);
            x.chain(0);
            is(x, 1, "result", 0, how);
            is(x, 0, "result", 1, how);
            for (int kind : NO_KINDS) {
                refused(x, "result", kind, how);
            }
        }
        for (int how : new int[] {-1, 3, LOW, HIGH}) {
            refused(of(5), "result", 0, how);
        }
        DUE.is("of fourteen", eventful(14).result(0, 0) >= 0, true);
        refused(eventful(15), "result", 0, 0);
        DUE.is("of fifteen, by what is peeled", eventful(15).result(0, 1) >= 0, true);
        DUE.is("of fifteen, the lightest", eventful(15).result(0, 2) >= 0, true);
    }

    private static void correct() {
        doc.promise(26, "It is corrected so: QUBITS of the CORRECTION get a SLIP each: how many; NONE: as for correction().");
        for (int how = 0; how < 3; how++) {
            WovenKeeper x = of(5);
            is(x, 0, "correct", 0, how);
            is(x, 0, "undo");
            x = of(5, "bit 2 2;");
            is(x, 1, "correct", 0, how);
            is(x, 0, "now", 3);
            x = of(5, "bit 0 1;");
            is(x, 1, "correct", 0, how);
            is(x, 3, "now", 3);
            for (int kind : NO_KINDS) {
                refused(x, "correct", kind, how);
            }
            is(x, 3, "now", 3);
        }
        for (int how : new int[] {-1, 3, LOW, HIGH}) {
            refused(of(5), "correct", 0, how);
        }
        DUE.is("of fourteen", eventful(14).correct(0, 0) >= 0, true);
        WovenKeeper x = eventful(15);
        int slips = x.now(3);
        refused(x, "correct", 0, 0);
        is(x, slips, "now", 3);
        is(x, 0, "undo");
        DUE.is("of fifteen, by what is peeled", eventful(15).correct(0, 1) >= 0, true);
        DUE.is("of fifteen, the lightest", eventful(15).correct(0, 2) >= 0, true);
    }

    private static void distance() {
        doc.promise(27, "DISTANCE; NONE: no such KIND.");
        is(of(3), 3, "distance", 0);
        is(of(5), 5, "distance", 1);
        for (int kind : NO_KINDS) {
            refused(of(3), "distance", kind);
        }
    }

    private static void like() {
        doc.promise(28, "LIKE sets of n QUBITS (0 to d d) whose LOGICAL is that (0, 1): how many; NONE: no such ones.");
        for (int d : SIZES) {
            WovenKeeper x = of(d);
            is(x, 1, "like", 0, 0, 0);
            is(x, 0, "like", 0, 1, 0);
            is(x, 0, "like", 0, 0, d * d);
            is(x, 1, "like", 0, 1, d * d);
            is(x, 0, "like", 1, 1, d - 1);
            DUE.is("of as many as the distance", x.like(1, 1, d) > 0, true);
            for (int n : new int[] {-1, d * d + 1, LOW, HIGH}) {
                refused(x, "like", 0, 0, n);
                refused(x, "like", 1, 1, n);
            }
            for (int logical : new int[] {-1, 2, LOW, HIGH}) {
                refused(x, "like", 0, logical, 0);
            }
            for (int kind : NO_KINDS) {
                refused(x, "like", kind, 0, 0);
            }
        }
    }

    private static void odds() {
        doc.promise(29, "each as a for each QUBIT in it by b for each that is not, multiplied, together (a, b 0 to 99; none of either: 1)");
        for (int d : SIZES) {
            WovenKeeper x = of(d);
            // 0 of a, where none is in it: 1; 0 of b, where all are in it: 1
            is(x, 1, "odds", 0, 0, 0, 1);
            is(x, 0, "odds", 0, 1, 0, 1);
            is(x, 1, "odds", 0, 1, 1, 0);
            is(x, 0, "odds", 0, 0, 1, 0);
            is(x, 0, "odds", 0, 0, 0, 0);
            is(x, 0, "odds", 0, 1, 0, 99);
            is(x, 0, "odds", 0, 0, 99, 0);
            for (int bad : new int[] {-1, 100, LOW, HIGH}) {
                refused(x, "odds", 0, 0, bad, 1);
                refused(x, "odds", 0, 0, 1, bad);
            }
            for (int logical : new int[] {-1, 2, LOW, HIGH}) {
                refused(x, "odds", 0, logical, 1, 1);
            }
            for (int kind : NO_KINDS) {
                refused(x, "odds", kind, 0, 1, 1);
            }
        }
        is(of(3), 913517247483640899L, "odds", 0, 0, 0, 99);
        is(of(3), 913517247483640899L, "odds", 1, 1, 99, 0);
        doc.promise(29, "NONE: no such ones, it would be above 9223372036854775807.");
        // of all that size 3 can have, the nearest below and the nearest above
        is(of(3, "bit 1 1;"), 9219586561099708464L, "odds", 0, 0, 89, 99);
        is(of(3, "bit 1 1;"), -1, "odds", 0, 0, 90, 99);
        is(of(3, "bit 1 0;bit 2 0;"), -1, "odds", 0, 0, 99, 89);
        // 5 to the 25th, 6 to the 25th: below and above by one set alone
        is(of(5), 298023223876953125L, "odds", 0, 0, 0, 5);
        is(of(5), -1, "odds", 0, 0, 0, 6);
        is(of(5), 298023223876953125L, "odds", 0, 1, 5, 0);
        is(of(5), -1, "odds", 0, 1, 6, 0);
        // far above, by one set alone and by all
        for (int a : new int[] {7, 8, 16, 64, 98, 99}) {
            is(of(5), -1, "odds", 0, 1, a, 0);
            is(of(5), -1, "odds", 1, 0, 0, a);
            is(of(5), -1, "odds", 0, 0, a, a);
            is(of(5), -1, "odds", 1, 1, a, 99);
        }
    }

    private static void press() {
        doc.promise(30, "SLIPS of the other KIND come to all QUBITS of the FACE of a CHECK of this one: the LOGICAL of that other KIND then; NONE: no such ones.");
        for (int d : SIZES) {
            WovenKeeper x = of(d);
            int last = (d * d - 1) / 2 - 1;
            is(x, 0, "press", 0, 0);
            is(x, 1 | 2 | 1 << d | 2 << d, "now", 4);
            is(x, 0, "press", 1, last);
            is(x, 3 << d * d - 2, "now", 3);
            for (int k : new int[] {-1, last + 1, LOW, HIGH}) {
                refused(x, "press", 0, k);
                refused(x, "press", 1, k);
            }
            for (int kind : NO_KINDS) {
                refused(x, "press", kind, 0);
            }
            is(x, 1 | 2 | 1 << d | 2 << d, "now", 4);
            is(x, 3 << d * d - 2, "now", 3);
            is(x, 1, "undo");
            x.chain(1);
            is(x, 1, "press", 0, 0);
            is(x, 0, "press", 1, 0);
        }
    }

    private static void chain() {
        doc.promise(31, "SLIPS of a KIND come to all QUBITS of column 0 (KIND 0), of row 0 (KIND 1): its LOGICAL then; NONE: no such KIND.");
        for (int d : SIZES) {
            WovenKeeper x = of(d);
            is(x, 1, "chain", 0);
            is(x, d == 3 ? 0b1001001 : 0x108421, "now", 3);
            is(x, 1, "chain", 1);
            is(x, (1 << d) - 1, "now", 4);
            is(x, 0, "chain", 0);
            is(x, 0, "now", 3);
            for (int kind : NO_KINDS) {
                refused(x, "chain", kind);
            }
            is(x, 0, "now", 3);
            is(x, (1 << d) - 1, "now", 4);
            is(x, 2, "undo");
        }
    }

    private static void line() {
        doc.promise(32, "A line of the picture (0 to 2 d): of 2 d and 1 signs");
        for (int d : SIZES) {
            WovenKeeper x = of(d);
            for (int r = 0; r <= 2 * d; r++) {
                is(x, 2 * d + 1, "line", r);
            }
            for (int r : new int[] {-1, 2 * d + 1, LOW, HIGH}) {
                refused(x, "line", r);
            }
        }
        doc.promise(32, "(b, p by KIND; B, P: it is LOUD), line 2 r and 1 at place 2 c and 1 the QUBIT of row r, column c (. + a SLIP of KIND 0, - of 1, * of both), blanks besides");
        WovenKeeper x = of(5, "bit 0 0;phase 0 4;both 4 0;");
        String[] due = {"  p   p    ", " + . . . - ", "  B p b P b", " . . . . . ", "b p b p b  ", " . . . . . ",
            "  b p b p b", " . . . . . ", "B P b p b  ", " * . . . . ", "    p   p  "};
        for (int r = 0; r <= 10; r++) {
            DUE.isText("line(" + r + ")", Tape.line(x, r), due[r]);
        }
    }

    private static void byteAt() {
        doc.promise(33, "Byte i of the latest line() that was not NONE; NONE: none such, or ahead of any.");
        WovenKeeper x = of(5);
        refused(x, "byteAt", 0);
        x.line(11);
        refused(x, "byteAt", 0);
        x.line(10);
        is(x, ' ', "byteAt", 0);
        is(x, 'p', "byteAt", 8);
        is(x, ' ', "byteAt", 10);
        for (int i : new int[] {-1, 11, LOW, HIGH}) {
            refused(x, "byteAt", i);
        }
        x.code(3);
        x.line(7);
        x.line(-1);
        is(x, 'p', "byteAt", 8);
        x.line(6);
        is(x, 'p', "byteAt", 4);
        is(x, ' ', "byteAt", 6);
        refused(x, "byteAt", 7);
    }

    private static void fewest() {
        doc.promise(34, "The fewest QUBITS of a LIKE set of that LOGICAL; NONE: no such ones.");
        for (int d : SIZES) {
            WovenKeeper x = of(d);
            is(x, 0, "fewest", 0, 0);
            is(x, d, "fewest", 0, 1);
            Tape.work(x, "phase 0 0;");
            is(x, 1, "fewest", 1, 1);
            is(x, d - 1, "fewest", 1, 0);
            for (int logical : new int[] {-1, 2, LOW, HIGH}) {
                refused(x, "fewest", 0, logical);
            }
            for (int kind : NO_KINDS) {
                refused(x, "fewest", kind, 0);
            }
        }
    }

    private static void drawn() {
        doc.promise(35, "So many ROUNDS (1 to 8) DRAWN by a seed, e (0 to 21): how many SLIPS came (both: two)");
        for (int e : new int[] {-1, 22, LOW, HIGH}) {
            refused(of(3), "drawn", 1, e, 0);
        }
        for (int rounds : new int[] {0, 9, -1, LOW, HIGH}) {
            refused(of(3), "drawn", rounds, 1, 0);
        }
        is(of(3), 0, "drawn", 1, 0, 5);
        is(of(3), 0, "drawn", 8, 0, 5);
        // 63 alone of all draws brings none: from the seed on, each qubit's draw is told apart
        WovenKeeper x = of(5);
        int came = x.drawn(1, 21, 12);
        int due = 0;
        int s = 12;
        for (int q = 0; q < 25; q++) {
            s = s * 1103515245 + 12345;
            int draw = s >>> 8 & 63;
            due += draw < 42 ? 1 : draw < 63 ? 2 : 0;
        }
        DUE.is("slips that came", came, due);
        DUE.is("slips that are there", Integer.bitCount(x.now(3)) + Integer.bitCount(x.now(4)), due);
        doc.promise(35, "NONE: not as told, there would be more than 8 ROUNDS.");
        for (int ahead = 1; ahead <= 8; ahead++) {
            x = of(3, "again " + ahead + "[round;];");
            refused(x, "drawn", 9 - ahead, 0, 0);
            refused(x, "drawn", 8, 0, 0);
            is(x, ahead, "now", 1);
            if (ahead < 8) {
                is(x, 0, "drawn", 8 - ahead, 0, 0);
                is(x, 8, "now", 1);
            }
            refused(x, "drawn", 1, 0, 0);
        }
    }

    private static void often() {
        doc.promise(36, "Of seeds s, s and 1, .. (n of them, 1 to 8), ROUNDS DRAWN likewise behind what there is");
        for (int how = 0; how < 3; how++) {
            WovenKeeper x = of(3, "round;bit 1 1;");
            for (int n = 1; n <= 8; n++) {
                is(x, ones(how, HIGH - 3, n), "often", 0, how, 1, 4, HIGH - 3, n);
            }
            for (int n : new int[] {0, 9, -1, LOW, HIGH}) {
                refused(x, "often", 0, how, 1, 4, 0, n);
            }
        }
        doc.promise(36, "all stays as it is. NONE: no such ones (as for drawn()).");
        WovenKeeper x = of(3, "round;bit 1 1;");
        for (int how : new int[] {-1, 3, LOW, HIGH}) {
            refused(x, "often", 0, how, 1, 4, 0, 1);
        }
        for (int kind : NO_KINDS) {
            refused(x, "often", kind, 0, 1, 4, 0, 1);
        }
        for (int e : new int[] {-1, 22, LOW, HIGH}) {
            refused(x, "often", 0, 1, 1, e, 0, 1);
        }
        for (int rounds : new int[] {0, 8, 9, -1, LOW, HIGH}) {
            refused(x, "often", 0, 1, rounds, 4, 0, 1);
        }
        is(x, 0, "often", 0, 1, 7, 0, 0, 8);
        DUE.is("e of 21", x.often(0, 1, 1, 21, 0, 8) >= 0, true);
        is(x, 1, "now", 1);
        is(x, 16, "now", 3);
        is(x, 0, "undo");
        // behind eight rounds none can be drawn
        refused(of(3, "again 8[round;];"), "often", 0, 2, 1, 0, 0, 1);
        // a chain that is there stays in what is drawn behind it
        x = of(3);
        x.chain(1);
        is(x, 8, "often", 1, 0, 8, 0, 0, 8);
        is(x, 0, "often", 0, 0, 8, 0, 0, 8);
    }

    /** By how many of n seeds the result is 1, each drawn by itself; the seeds wrap around. */
    private static int ones(int how, int seed, int n) {
        int ones = 0;
        for (int i = 0; i < n; i++) {
            WovenKeeper x = of(3, "round;bit 1 1;");
            x.drawn(1, 4, seed + i);
            ones += x.result(0, how) == 1 ? 1 : 0;
        }
        return ones;
    }

    private static void oftenBeyondFourteen() {
        doc.promise(36, "more than 14 EVENTS (how 0) count as 0");
        // met: 13 and 14 events that count as 1, 15 and 16 that would
        boolean[] met = new boolean[17];
        for (int seed = 0; seed < 3000; seed++) {
            WovenKeeper x = of(5);
            x.drawn(3, 4, seed);
            int many = x.events(0);
            if (many >= 13 && many <= 16 && !met[many] && x.result(0, 1) == 1 && x.result(0, 0) != 0) {
                met[many] = true;
                is(of(5), many <= 14 ? 1 : 0, "often", 0, 0, 3, 4, seed, 1);
                is(of(5), 1, "often", 0, 1, 3, 4, seed, 1);
            }
        }
        for (int many = 13; many <= 16; many++) {
            DUE.is("met " + many + " events", met[many], true);
        }
    }

    private static void undo() {
        doc.promise(37, "how many more can be (8 at most are kept); NONE: none is.");
        // the ring of what is kept is gone round more than once
        for (int deeds = 0; deeds <= 20; deeds++) {
            WovenKeeper x = of(3);
            for (int n = 1; n <= deeds; n++) {
                Tape.work(x, "weigh 0 0 " + (1 + n % 9) + ";");
            }
            int kept = Math.min(8, deeds);
            for (int n = 1; n <= kept; n++) {
                is(x, kept - n, "undo");
                is(x, deeds == n ? 1 : 1 + (deeds - n) % 9, "qubit", 0, 0);
            }
            int weight = x.qubit(0, 0);
            refused(x, "undo");
            refused(x, "undo");
            is(x, weight, "qubit", 0, 0);
        }
        // some undone, some done anew
        WovenKeeper x = of(3);
        for (int n = 0; n < 8; n++) {
            x.chain(0);
        }
        is(x, 7, "undo");
        is(x, 6, "undo");
        x.chain(1);
        x.chain(1);
        x.chain(1);
        for (int n = 7; n >= 0; n--) {
            is(x, n, "undo");
        }
        refused(x, "undo");
    }

    private static void undone() {
        doc.promise(37, "The latest work() of 0 or more, correct(), drawn(), press(), chain() that was not NONE is undone (all that it changed)");
        String[] deeds = {"work", "correct", "drawn", "press", "chain"};
        int[][] args = {{}, {0, 0}, {2, 5, 1}, {0, 0}, {1}};
        int[][] none = {{}, {0, 3}, {9, 5, 1}, {0, 4}, {2}};
        for (int n = 0; n < 5; n++) {
            WovenKeeper x = of(3, "bit 1 2;weigh 0 0 5;late bit 1 6;miss bit 2;");
            if (n == 0) {
                Tape.put(x, "weigh 0 0 2;late bit 1 3;round;miss phase 1;both 1 1;");
            }
            DUE.is(deeds[n] + " is done", new Call(deeds[n], args[n]).on(x) >= 0, true);
            is(x, 1, "undo");
            int[] due = {3, 0, 4, 32, 0, 10, 0, 4, 0, 0};
            for (int what = 0; what < 10; what++) {
                is(x, due[what], "now", what);
            }
            is(x, 5, "qubit", 0, 0);
            is(x, 6, "check", 0, 1, 3);
            refused(x, "reading", 0, 0);
            if (n == 0) {
                Tape.put(x, "bit 9 9;");
                is(x, -1004, "work");
            } else {
                refused(x, deeds[n], none[n]);
            }
            is(x, 0, "undo");
            is(x, 1, "qubit", 0, 0);
            is(x, 0, "now", 3);
            refused(x, "undo");
        }
        // of 0: nothing was done, but it is kept
        WovenKeeper x = of(3);
        is(x, 0, "work");
        is(x, 0, "undo");
        refused(x, "undo");
        is(x, 0, "correct", 0, 2);
        is(x, 0, "drawn", 1, 0, 0);
        is(x, 1, "undo");
        is(x, 0, "now", 1);
        is(x, 0, "undo");
        refused(x, "undo");
    }

    private static void image() {
        doc.promise(38, "The CODE with all that is so is kept in place k (0, 1): true; false: no such one.");
        for (int k = 0; k < 2; k++) {
            WovenKeeper x = of(5, "bit 4 4;weigh 4 4 9;late phase 11 8;round;miss bit 11;");
            for (int bad : new int[] {-1, 2, LOW, HIGH}) {
                refused(x, "image", bad);
            }
            refused(x, "restore", 0);
            refused(x, "restore", 1);
            is(x, 1, "image", k);
            refused(x, "restore", 1 - k);
            x.code(3);
            is(x, 1, "restore", k);
            int[] due = {5, 1, 12, 1 << 24, 0, 1 << 11, 0, 1 << 11, 0, 0};
            for (int what = 0; what < 10; what++) {
                is(x, due[what], "now", what);
            }
            is(x, 9, "qubit", 24, 0);
            is(x, 8, "check", 1, 11, 3);
            is(x, 1 << 11, "reading", 0, 0);
            refused(x, "reading", 0, 1);
            // kept anew: what was there is gone
            x.code(3);
            is(x, 1, "image", k);
            x.chain(0);
            is(x, 1, "restore", k);
            is(x, 3, "now", 0);
            is(x, 0, "now", 3);
        }
    }

    private static void restore() {
        doc.promise(39, "It is as kept in place k (the tape, what other calls told last stay; nothing can be undone): true; false: no such one, or nothing is kept there.");
        WovenKeeper x = of(3, "bit 0 0;");
        refused(x, "restore", 0);
        x.image(1);
        refused(x, "restore", 0);
        for (int bad : new int[] {-1, 2, LOW, HIGH}) {
            refused(x, "restore", bad);
        }
        is(x, 1, "now", 3);
        is(x, 0, "undo");
        Tape.work(x, "bit 1 1;weigh 9");
        Tape.work(x, "bit 1 1;");
        x.pair(0);
        x.grow(0);
        x.line(3);
        Tape.work(x, "bit 9");
        Tape.put(x, "phase 2 2;");
        is(x, 1, "restore", 1);
        is(x, 1, "now", 3);
        is(x, 10, "now", 9);
        is(x, 2, "fault");
        is(x, 1, "partner", 0);
        is(x, 1, "grown", 0);
        is(x, 4, "peeledAt", 0);
        is(x, '+', "byteAt", 3);
        refused(x, "undo");
        is(x, 1, "work");
        is(x, 256, "now", 4);
        is(x, 0, "undo");
        // an image is not used up, and what comes behind it does not change it
        x.chain(0);
        is(x, 1, "restore", 1);
        is(x, 1, "restore", 1);
        is(x, 1, "now", 3);
    }
}
