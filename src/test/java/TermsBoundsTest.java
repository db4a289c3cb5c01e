import java.io.IOException;

/** Each sentence of the terms, of parts 2 and 3 that names a bound, on both sides of it. */
public final class TermsBoundsTest {
    private static final Due DUE = new Due("TermsBoundsTest");
    private static final int LOW = Integer.MIN_VALUE;
    private static final int HIGH = Integer.MAX_VALUE;
    private static final int[] SIZES = {3, 5};
    private static Document doc;

    public static void main(String[] args) throws IOException {
        doc = new Document(DUE);
        calls();
        sizes();
        qubits();
        faces();
        checks();
        slips();
        loud();
        logical();
        weightAndLateness();
        marks();
        rounds();
        layers();
        events();
        lastSpot();
        edges();
        ways();
        fourteenEvents();
        firstPairing();
        openClumps();
        wholeEdges();
        forest();
        peeled();
        correctionInAllLayers();
        lightest();
        left();
        distance();
        likeSets();
        drawsOfQubits();
        drawsOfChecks();
        drawsWrap();
        roundsOfDraws();
        DUE.close();
    }

    private static WovenKeeper of(int size, String... texts) {
        WovenKeeper x = new WovenKeeper();
        x.code(size);
        for (String text : texts) {
            DUE.is("a work() without fault: " + text, Tape.work(x, text) >= 0, true);
        }
        return x;
    }

    private static void is(WovenKeeper x, long due, String name, int... args) {
        Call call = new Call(name, args);
        DUE.is(call.toString(), call.on(x), due);
    }

    private static void refused(WovenKeeper x, String name, int... args) {
        Call call = new Call(name, args);
        is(x, call.refusal(), name, args);
    }

    /** Slips of both kinds by which every check is loud, in either size. */
    private static String allLoud(int size) {
        StringBuilder text = new StringBuilder();
        for (int row = 0; row < size; row += 2) {
            for (int column = 0; column < size; column += 2) {
                text.append("both ").append(row).append(' ').append(column).append(';');
            }
        }
        return text.toString();
    }

    private static String allMissed(String kind, int checks) {
        StringBuilder text = new StringBuilder();
        for (int k = 0; k < checks; k++) {
            text.append("miss ").append(kind).append(' ').append(k).append(';');
        }
        return text.toString();
    }

    private static void calls() {
        doc.term("An object is used for at most 512 calls after it has been made; what later calls answer is free.");
        WovenKeeper x = new WovenKeeper();
        for (int n = 1; n <= 512; n++) {
            DUE.is("call " + n + ": chain(0)", x.chain(0), n % 2);
        }
        // free, but never what the machine throws by itself
        int[] odd = {LOW, -2, -1, 0, 1, 2, 3, 4, 5, 8, 12, 21, 99, HIGH};
        int calls = 0;
        for (int n = 0; n < 3000; n++) {
            int a = odd[n % 14];
            int b = odd[n / 14 % 14];
            int c = odd[n / 196 % 14];
            x.feed(a, b, c, n, 0x20202020);
            x.end(n % 241);
            x.work();
            x.drawn(a, b, n);
            for (String name : new String[] {"check", "event", "far", "blame", "edge", "like"}) {
                new Call(name, a, b, c).on(x);
                calls++;
            }
            x.pair(a);
            x.grow(b);
            x.undo();
            x.image(a);
            x.restore(b);
        }
        DUE.is("calls behind the 512th that came back", calls, 18000);
    }

    private static void sizes() {
        doc.term("A CODE of SIZE d (3, 5)");
        WovenKeeper x = new WovenKeeper();
        is(x, 9, "code", 3);
        is(x, 25, "code", 5);
        for (int size : new int[] {2, 4, 6, 1, 0, -1, -3, -5, 9, 25, LOW, HIGH}) {
            refused(x, "code", size);
            is(x, 5, "now", 0);
        }
    }

    private static void qubits() {
        doc.term("QUBITS in d rows of d columns, numbered from 0, row by row.");
        for (int d : SIZES) {
            int last = d - 1;
            is(of(d, "bit 0 0;"), 1, "now", 3);
            is(of(d, "bit 0 " + last + ";"), 1 << last, "now", 3);
            is(of(d, "bit 1 0;"), 1 << d, "now", 3);
            is(of(d, "phase " + last + " 0;"), 1 << d * last, "now", 4);
            is(of(d, "phase " + last + " " + last + ";"), 1 << d * d - 1, "now", 4);
            is(of(d), 1, "qubit", 0, 0);
            is(of(d), 1, "qubit", d * d - 1, 0);
            refused(of(d), "qubit", -1, 0);
            refused(of(d), "qubit", d * d, 0);
        }
    }

    private static int bitsOnFace(int d, int i, int j) {
        int bits = 0;
        for (int q = 0; q < d * d; q++) {
            boolean row = q / d == i - 1 || q / d == i;
            boolean column = q % d == j - 1 || q % d == j;
            bits |= row && column ? 1 << q : 0;
        }
        return bits;
    }

    private static void faces() {
        doc.term("FACES (i, j), i and j from 0 to d: on it are those QUBITS of rows i less 1 and i and columns j less 1 and j that there are.");
        for (int d : SIZES) {
            WovenKeeper x = of(d);
            int two = 0;
            for (int n = 0; n < 2 * x.now(2); n++) {
                int i = x.check(n % 2, n / 2, 0);
                int j = x.check(n % 2, n / 2, 1);
                is(x, bitsOnFace(d, i, j), "check", n % 2, n / 2, 2);
                boolean outer = i == 0 || i == d || j == 0 || j == d;
                DUE.is("qubits on (" + i + ", " + j + ")", Integer.bitCount(x.check(n % 2, n / 2, 2)), outer ? 2 : 4);
                two += outer ? 1 : 0;
            }
            DUE.is("faces of two qubits", two, 2 * (d - 1));
        }
    }

    private static void checks() {
        doc.term("of KIND 0 (BIT), if i and j together are even, else of KIND 1 (PHASE)");
        doc.term("on one with j 0 or d, and i from 1 to d less 1, if i and j together are even: KIND 0");
        doc.term("on one with i 0 or d, and j from 1 to d less 1, if they are odd: KIND 1.");
        String[] small = {"  p    ", "  b p b", "b p b  ", "    p  "};
        String[] large = {"  p   p    ", "  b p b p b", "b p b p b  ", "  b p b p b", "b p b p b  ", "    p   p  "};
        for (int i = 0; i < 4; i++) {
            DUE.isText("size 3: line(" + 2 * i + ")", Tape.line(of(3), 2 * i), small[i]);
        }
        for (int i = 0; i < 6; i++) {
            DUE.isText("size 5: line(" + 2 * i + ")", Tape.line(of(5), 2 * i), large[i]);
        }
        doc.term("CHECKS of each KIND (K of them: 4, 12) are numbered from 0, by i, then by j.");
        for (int d : SIZES) {
            WovenKeeper x = of(d);
            int most = d == 3 ? 4 : 12;
            is(x, most, "now", 2);
            for (int kind = 0; kind < 2; kind++) {
                refused(x, "check", kind, -1, 0);
                refused(x, "check", kind, most, 0);
                int ahead = -1;
                for (int k = 0; k < most; k++) {
                    int place = x.check(kind, k, 0) * (d + 1) + x.check(kind, k, 1);
                    DUE.is("check " + k + " comes behind the one ahead", place > ahead, true);
                    ahead = place;
                }
            }
        }
    }

    private static void slips() {
        doc.term("SLIPS of each KIND: on each QUBIT one or none (a second one takes it away).");
        WovenKeeper x = of(5);
        for (int n = 1; n <= 3; n++) {
            Tape.work(x, "bit 4 4;");
            is(x, n % 2 == 1 ? 1 << 24 : 0, "now", 3);
            is(x, 0, "now", 4);
        }
        Tape.work(x, "both 4 4;");
        is(x, 0, "now", 3);
        is(x, 1 << 24, "now", 4);
        Tape.work(x, "phase 4 4;");
        is(x, 0, "now", 4);
        // whatever brings it: a press, a chain, a correction, a draw of 0 and one of 20 by 10
        x = of(3, "both 0 0;both 0 1;both 1 0;both 1 1;");
        x.press(0, 0);
        is(x, 0, "now", 4);
        x.press(1, 0);
        is(x, 8 | 16, "now", 3);
        x = of(3, "both 0 0;");
        x.chain(0);
        is(x, 8 | 64, "now", 3);
        x.chain(1);
        is(x, 2 | 4, "now", 4);
        x = of(3, "bit 0 0;");
        x.correct(0, 2);
        is(x, 0, "now", 3);
        for (int draw : new int[] {0, 10, 20, 30}) {
            x = of(3, "both 0 0;");
            x.drawn(1, 10, seedAhead(draw << 8, 1));
            DUE.is("a bit and a draw of " + draw, x.now(3) & 1, draw == 0 || draw == 20 ? 0 : 1);
            DUE.is("a phase and a draw of " + draw, x.now(4) & 1, draw == 10 || draw == 20 ? 0 : 1);
        }
    }

    private static void loud() {
        doc.term("A CHECK is LOUD, if an odd number of SLIPS of its KIND lie on QUBITS of its FACE.");
        // check 0 of bits: qubits 0, 1, 3, 4; check 0 of phases: 0, 1
        String[] on = {"", "both 0 0;", "both 0 1;", "both 1 0;", "both 1 1;"};
        WovenKeeper x = new WovenKeeper();
        for (int n = 0; n <= 4; n++) {
            Tape.work(x, on[n]);
            DUE.is(n + " slips on a face of four", x.now(5) & 1, n % 2);
            DUE.is(Math.min(n, 2) + " slips on a face of two", x.now(6) & 1, n == 1 ? 1 : 0);
        }
        is(of(3, "phase 1 1;"), 0, "now", 5);
        is(of(3, "bit 1 1;"), 0, "now", 6);
        is(of(3, allLoud(3)), 15, "now", 5);
        is(of(3, allLoud(3)), 15, "now", 6);
        is(of(5, allLoud(5)), 4095, "now", 5);
        is(of(5, allLoud(5)), 4095, "now", 6);
    }

    private static void logical() {
        doc.term("LOGICAL of SLIPS of KIND 0: 1, if an odd number of them are in row 0, else 0; of KIND 1: in column 0.");
        // faces pressed here lie far from row 0 and column 0
        for (int column = 0; column < 3; column++) {
            is(of(3, "bit 0 " + column + ";"), 1, "press", 1, 3);
            is(of(3, "bit 1 " + column + ";"), 0, "press", 1, 3);
            is(of(3, "bit 2 " + column + ";"), 0, "press", 1, 3);
        }
        for (int row = 0; row < 3; row++) {
            is(of(3, "phase " + row + " 0;"), 1, "press", 0, 1);
            is(of(3, "phase " + row + " 1;"), 0, "press", 0, 1);
            is(of(3, "phase " + row + " 2;"), 0, "press", 0, 1);
        }
        is(of(3), 0, "press", 1, 3);
        is(of(3, "bit 0 0;bit 0 2;"), 0, "press", 1, 3);
        is(of(3, "bit 0 0;bit 0 1;bit 0 2;"), 1, "press", 1, 3);
        is(of(5, "bit 0 4;"), 1, "press", 1, 11);
        is(of(5, "bit 1 0;"), 0, "press", 1, 11);
        is(of(5, "phase 4 0;"), 1, "press", 0, 8);
        is(of(5, "phase 0 1;"), 0, "press", 0, 8);
    }

    private static void weightAndLateness() {
        doc.term("Each QUBIT has a WEIGHT, each CHECK a LATENESS (1 to 9; 1 at first).");
        for (int d : SIZES) {
            WovenKeeper x = of(d);
            for (int q = 0; q < d * d; q++) {
                is(x, 1, "qubit", q, 0);
            }
            for (int k = 0; k < x.now(2); k++) {
                is(x, 1, "check", 0, k, 3);
                is(x, 1, "check", 1, k, 3);
            }
            int last = x.now(2) - 1;
            for (int n : new int[] {9, 1, 5}) {
                DUE.is("weigh by " + n, Tape.work(x, "weigh 0 1 " + n + ";"), 1);
                is(x, n, "qubit", 1, 0);
                DUE.is("late by " + n, Tape.work(x, "late phase " + last + " " + n + ";"), 1);
                is(x, n, "check", 1, last, 3);
            }
            for (int n : new int[] {0, 10}) {
                DUE.is("weigh by " + n, Tape.work(x, "weigh 0 1 " + n + ";"), -1010);
                is(x, 5, "qubit", 1, 0);
                DUE.is("late by " + n, Tape.work(x, "late phase 3 " + n + ";"), -1013);
                is(x, 5, "check", 1, last, 3);
            }
        }
    }

    private static void marks() {
        doc.term("A CHECK that is MARKED (none at first) is read wrong in the next ROUND.");
        WovenKeeper x = new WovenKeeper();
        is(x, 0, "now", 7);
        is(x, 0, "now", 8);
        Tape.work(x, "bit 0 0;miss bit 0;miss bit 3;miss phase 1;round;round;");
        is(x, 8, "reading", 0, 0);
        is(x, 2, "reading", 1, 0);
        is(x, 1, "reading", 0, 1);
        is(x, 0, "reading", 1, 1);
        doc.term("the other way round if MARKED; no one is MARKED then.");
        x = of(3, "miss bit 0;miss bit 3;miss phase 1;");
        is(x, 9, "now", 7);
        is(x, 2, "now", 8);
        Tape.work(x, "round;");
        is(x, 0, "now", 7);
        is(x, 0, "now", 8);
        doc.term("(CHECK k of it is MARKED, or not any more)");
        x = new WovenKeeper();
        for (int n = 1; n <= 3; n++) {
            Tape.work(x, "miss phase 3;");
            is(x, n % 2 == 1 ? 8 : 0, "now", 8);
        }
        Tape.work(x, "miss phase 3;round;");
        is(x, 0, "reading", 1, 0);
    }

    private static void rounds() {
        doc.term("A ROUND (8 at most): each CHECK is read");
        WovenKeeper x = new WovenKeeper();
        for (int n = 1; n <= 8; n++) {
            refused(x, "reading", 0, n - 1);
            DUE.is("round " + n, Tape.work(x, "round;"), 1);
            is(x, n, "now", 1);
            is(x, 0, "reading", 0, n - 1);
        }
        Tape.work(x, "both 1 1;miss bit 1;");
        DUE.is("round 9", Tape.work(x, "round;"), 0);
        is(x, 8, "now", 1);
        is(x, 2, "now", 7);
        is(x, 0, "reading", 0, 7);
        refused(x, "reading", 0, 8);
        refused(x, "drawn", 1, 0, 0);
        is(x, 8, "now", 1);
    }

    private static void layers() {
        doc.term("LAYERS 0 to R, R the ROUNDS so far: what is read in ROUND 0, 1, ..");
        for (int d : SIZES) {
            int k = (d * d - 1) / 2;
            for (int rounds = 0; rounds <= 8; rounds++) {
                WovenKeeper x = of(d);
                if (rounds > 0) {
                    x.drawn(rounds, 0, 0);
                }
                is(x, (rounds + 1) * d * d + rounds * k, "edges", 0);
                is(x, (rounds + 1) * d * d + rounds * k, "edges", 1);
                Tape.work(x, "bit 0 0;");
                is(x, rounds, "event", 0, 0, 1);
            }
        }
        doc.term("LAYER R is how it is now (LOUD or not, nothing is read wrong).");
        WovenKeeper x = of(3, "miss bit 2;");
        is(x, 0, "events", 0);
        Tape.work(x, "round;");
        is(x, 2, "events", 0);
        is(x, 0, "event", 0, 0, 1);
        is(x, 1, "event", 0, 1, 1);
        Tape.work(x, "miss bit 1;");
        is(x, 2, "events", 0);
    }

    private static void events() {
        doc.term("EVENTS of a KIND: a CHECK and a LAYER in which it is not as in the one ahead (LAYER 0: not quiet), in order of LAYERS, then CHECKS, numbered from 0.");
        is(of(3), 0, "events", 0);
        refused(of(3), "event", 0, 0, 0);
        WovenKeeper x = of(3, "bit 0 0;round;");
        is(x, 1, "events", 0);
        is(x, 0, "event", 0, 0, 1);
        x = of(3, "round;bit 0 0;");
        is(x, 1, "events", 0);
        is(x, 1, "event", 0, 0, 1);
        String[] kinds = {"bit", "phase"};
        for (int kind = 0; kind < 2; kind++) {
            // all loud, all missed, by turns: each check changes in each of nine layers
            x = of(5, allLoud(5), "again 4[round;" + allMissed(kinds[kind], 12) + "round;];");
            is(x, 8, "now", 1);
            is(x, 108, "events", kind);
            is(x, 12, "events", 1 - kind);
            for (int i = 0; i < 108; i++) {
                is(x, i % 12, "event", kind, i, 0);
                is(x, i / 12, "event", kind, i, 1);
            }
            refused(x, "event", kind, 108, 0);
            refused(x, "event", kind, -1, 0);
            fullNet(x, kind);
        }
    }

    /** What is asked of as many events as there can be. */
    private static void fullNet(WovenKeeper x, int kind) {
        refused(x, "pair", kind);
        DUE.is("grow() of 108", x.grow(kind) > 0, true);
        DUE.is("peeled of 108", x.grown(3) >= 54, true);
        DUE.is("far() in time", x.far(kind, 0, 96), 8);
        for (int n = 0; n < 8; n++) {
            is(x, 37 * n + 25, "way", kind, 0, 96, n);
        }
        refused(x, "way", kind, 0, 96, 8);
        refused(x, "far", kind, 0, 108);
        is(x, 1, "far", kind, 107, -1);
        DUE.is("correct() by what is peeled", x.correct(kind, 1) >= 0, true);
        is(x, 0, "now", 5 + kind);
    }

    /** One event in the last spot of as many layers as there can be, next to the border. */
    private static void lastSpot() {
        doc.term("SPOTS: each CHECK of the KIND in each LAYER, and the BORDER.");
        WovenKeeper x = of(5, "again 8[round;];bit 4 4;weigh 4 3 2;");
        is(x, 11, "event", 0, 0, 0);
        is(x, 8, "event", 0, 0, 1);
        is(x, 1, "far", 0, 0, -1);
        is(x, 320, "way", 0, 0, -1, 0);
        is(x, 1, "pair", 0);
        is(x, -2, "partner", 0);
        is(x, 1, "grow", 0);
        is(x, 320, "peeledAt", 0);
        is(x, 107, "edge", 0, 320, 0);
        is(x, -1, "edge", 0, 320, 1);
        is(x, 1 << 24, "correction", 0, 0);
        is(x, 1 << 24, "correction", 0, 1);
        is(x, 1 << 24, "correction", 0, 2);
    }

    private static void edges() {
        doc.term("number t (d d + K) + q; from each CHECK k in LAYER t (below R) to it in the next one, of its LATENESS: number t (d d + K) + d d + k.");
        for (int d : SIZES) {
            int k = (d * d - 1) / 2;
            int last = d - 1;
            WovenKeeper x = of(d, "round;weigh " + last + " " + last + " 9;late bit 0 8;late bit " + (k - 1) + " 7;weigh 0 0 6;");
            is(x, 6, "edge", 0, 0, 2);
            is(x, 9, "edge", 0, d * d - 1, 2);
            is(x, 8, "edge", 0, d * d, 2);
            is(x, 0, "edge", 0, d * d, 0);
            is(x, k, "edge", 0, d * d, 1);
            is(x, 7, "edge", 0, d * d + k - 1, 2);
            is(x, k - 1, "edge", 0, d * d + k - 1, 0);
            is(x, 2 * k - 1, "edge", 0, d * d + k - 1, 1);
            is(x, 6, "edge", 0, d * d + k, 2);
            is(x, k, "edge", 0, d * d + k, 0);
            is(x, 9, "edge", 0, 2 * d * d + k - 1, 2);
            refused(x, "edge", 0, 2 * d * d + k, 2);
            refused(x, "edge", 0, -1, 2);
        }
        doc.term("between the SPOTS of the two CHECKS (of the KIND) that it is on, or the one and the BORDER");
        for (int d : SIZES) {
            WovenKeeper x = of(d);
            for (int q = 0; q < d * d; q++) {
                boolean outerRow = q / d == 0 || q / d == d - 1;
                boolean outerColumn = q % d == 0 || q % d == d - 1;
                DUE.is("bits: qubit " + q + " is at the border", x.edge(0, q, 1) == -1, outerRow);
                DUE.is("phases: qubit " + q + " is at the border", x.edge(1, q, 1) == -1, outerColumn);
                DUE.is("bits: checks of " + q, Integer.bitCount(x.qubit(q, 1)), outerRow ? 1 : 2);
                DUE.is("phases: checks of " + q, Integer.bitCount(x.qubit(q, 2)), outerColumn ? 1 : 2);
            }
        }
    }

    private static void ways() {
        doc.term("EDGES one behind the other, the BORDER nowhere but at its end");
        // checks 0 and 3: each next to the border, but a heavy qubit between them
        String heavy = "weigh 1 0 9;weigh 1 2 9;";
        WovenKeeper x = of(3, "bit 1 1;" + heavy + "weigh 1 1 9;");
        is(x, 9, "far", 0, 0, 1);
        is(x, 1, "far", 0, 0, -1);
        is(x, 1, "far", 0, 1, -1);
        is(x, 4, "way", 0, 0, 1, 0);
        refused(x, "way", 0, 0, 1, 1);
        doc.term("the shortest by their weights together, of like ones the first (EDGE by EDGE the least number).");
        // to the border: qubits 0 and 1 by check 0
        is(of(3, "bit 0 1;weigh 0 1 2;"), 1, "far", 0, 0, -1);
        is(of(3, "bit 0 1;weigh 0 1 2;"), 0, "way", 0, 0, -1, 0);
        x = of(3, "bit 0 1;");
        is(x, 0, "way", 0, 0, -1, 0);
        Tape.work(x, "weigh 0 0 2;");
        is(x, 1, "way", 0, 0, -1, 0);
        Tape.work(x, "weigh 0 1 2;");
        // 0 alone weighs 2, and 4 with 7 or 8 as much
        is(x, 2, "far", 0, 0, -1);
        is(x, 0, "way", 0, 0, -1, 0);
        refused(x, "way", 0, 0, -1, 1);
        Tape.work(x, "weigh 0 0 3;weigh 0 1 3;");
        // 3 with 6, 4 with 7, 4 with 8
        is(x, 3, "way", 0, 0, -1, 0);
        is(x, 6, "way", 0, 0, -1, 1);
        refused(x, "way", 0, 0, -1, 2);
        Tape.work(x, "weigh 2 0 2;");
        is(x, 4, "way", 0, 0, -1, 0);
        is(x, 7, "way", 0, 0, -1, 1);
        // the first edge settles it, whatever comes behind
        x = of(3, "bit 0 0;round;bit 2 1;weigh 1 1 2;");
        is(x, 3, "far", 0, 0, 1);
        is(x, 4, "way", 0, 0, 1, 0);
        is(x, 12, "way", 0, 0, 1, 1);
    }

    private static void fourteenEvents() {
        doc.term("PAIRING of a KIND (14 EVENTS at most)");
        WovenKeeper x = of(5, "again 6[bit 0 0;bit 4 4;round;];bit 0 0;");
        is(x, 13, "events", 0);
        DUE.is("pair() of 13", x.pair(0) > 0, true);
        Tape.work(x, "bit 4 4;");
        is(x, 14, "events", 0);
        is(x, 8, "pair", 0);
        DUE.is("pairings() of 14", x.pairings(0) > 0, true);
        Tape.work(x, "bit 0 2;");
        is(x, 15, "events", 0);
        refused(x, "pair", 0);
        refused(x, "pairings", 0);
        refused(x, "blame", 0, 0, 0);
        refused(x, "correction", 0, 0);
        refused(x, "result", 0, 0);
        refused(x, "correct", 0, 0);
        is(x, 0, "pair", 1);
    }

    private static void firstPairing() {
        doc.term("each EVENT with another one (a WAY between them, from the lesser) or with the BORDER: all WAYS together least");
        WovenKeeper x = of(3);
        is(x, 0, "pair", 0);
        refused(x, "partner", 0);
        x = of(3, "bit 0 0;");
        is(x, 1, "pair", 0);
        is(x, -2, "partner", 0);
        // 13, 18, 19 from the lesser, 14 from the other: of like weight
        x = of(5, "weigh 2 4 3;bit 2 4;");
        is(x, 3, "pair", 0);
        is(x, 13, "way", 0, 0, 1, 0);
        is(x, 14, "way", 0, 1, 0, 0);
        is(x, 1 << 13 | 1 << 18 | 1 << 19, "correction", 0, 0);
        doc.term("of like ones the first (by EVENTS the least partner, the BORDER behind all).");
        // checks 0 and 3 in two layers: 0 and 1 by qubit 4, or 0 and 2 by time
        x = of(3, "bit 1 1;round;bit 1 1;");
        is(x, 2, "pair", 0);
        is(x, 2, "pairings", 0);
        partners(x, 1, 0, 3, 2);
        Tape.work(x, "weigh 1 1 2;");
        is(x, 2, "pair", 0);
        is(x, 1, "pairings", 0);
        partners(x, 2, 3, 0, 1);
        // with one another for 2, or each with the border for 1
        x = of(3, "bit 1 1;weigh 1 1 2;weigh 1 0 9;weigh 1 2 9;");
        is(x, 2, "pair", 0);
        is(x, 2, "pairings", 0);
        partners(x, 1, 0);
        Tape.work(x, "weigh 1 1 3;");
        is(x, 1, "pairings", 0);
        partners(x, -2, -2);
    }

    private static void partners(WovenKeeper x, int... due) {
        x.pair(0);
        for (int i = 0; i < due.length; i++) {
            is(x, due[i], "partner", i);
        }
        refused(x, "partner", due.length);
        refused(x, "partner", -1);
    }

    private static void grown(WovenKeeper x, int kind, int... due) {
        is(x, due[4], "grow", kind);
        for (int what = 0; what < 4; what++) {
            is(x, due[what], "grown", what);
        }
    }

    private static void openClumps() {
        doc.term("A CLUMP is OPEN, if an odd number of EVENTS is in it and the BORDER is not.");
        // none: nothing is ever open
        grown(of(3), 0, 0, 0, 0, 0, 0);
        grown(of(5, "round;"), 1, 0, 0, 0, 0, 0);
        // one, as long as the border is not in it: qubits 0, 1, 3, 4 are whole at once
        grown(of(3, "bit 0 0;"), 0, 2, 4, 3, 1, 1);
        // two, as long as they are apart: qubit 4 by both its ends
        grown(of(3, "bit 1 1;"), 0, 1, 1, 1, 1, 1);
        // three in one clump are open still: checks 0, 1, 3 by 4 and 5, then the border by 0 1 2 7 8, and 3;
        // 5 makes a ring by 0, 2 and 4, and behind 0 lie two of the three
        WovenKeeper x = of(3, "bit 0 0;bit 1 2;");
        is(x, 11, "now", 5);
        grown(x, 0, 2, 8, 4, 2, 2);
        is(x, 2, "peeledAt", 0);
        is(x, 4, "peeledAt", 1);
        // four in one clump are not: 3, 4, 5
        grown(of(3, allLoud(3)), 0, 1, 3, 3, 2, 2);
        // one is at the border by 0 and 1 behind two steps, the other is open till 7 and 8 are whole
        x = of(3, "bit 0 0;bit 2 1;weigh 1 0 9;weigh 1 1 9;weigh 1 2 9;weigh 2 1 3;weigh 2 2 3;");
        grown(x, 0, 6, 4, 2, 2, 4);
        is(x, 0, "peeledAt", 0);
        is(x, 7, "peeledAt", 1);
    }

    private static void wholeEdges() {
        doc.term("then EDGES that have grown by twice their weight or more are whole");
        for (int n = 1; n <= 9; n++) {
            // one end: check 0 alone to the border; its other qubits weigh 9, and are whole behind 18 steps alone
            WovenKeeper x = of(3, "bit 0 0;weigh 0 1 9;weigh 1 0 9;weigh 1 1 9;weigh 0 0 " + n + ";");
            is(x, n, "grow", 0);
            is(x, 2 * n, "grown", 0);
            is(x, n < 9 ? 1 : 4, "grown", 1);
            // two ends: checks 0 and 3 by qubit 4
            String far = "weigh 0 0 9;weigh 0 1 9;weigh 1 0 9;weigh 1 2 9;weigh 2 1 9;weigh 2 2 9;";
            x = of(3, "bit 1 1;" + far + "weigh 1 1 " + n + ";");
            is(x, n, "grow", 0);
            is(x, n, "grown", 0);
            is(x, 1, "grown", 1);
            // in time: the events of one wrong reading
            x = of(3, "miss bit 0;round;weigh 0 0 9;weigh 0 1 9;weigh 1 0 9;weigh 1 1 9;late bit 0 " + n + ";");
            is(x, n, "grow", 0);
            is(x, n, "grown", 0);
            is(x, 9, "peeledAt", 0);
        }
    }

    private static void forest() {
        doc.term("FOREST: of all whole EDGES, in order of numbers, each that makes no ring (the BORDER being one SPOT).");
        // qubits 0 and 1 both lead from check 0 to the border
        WovenKeeper x = of(3, "bit 0 1;");
        grown(x, 0, 2, 4, 3, 1, 1);
        is(x, 0, "peeledAt", 0);
        // 0 is not whole in time, so 1 makes no ring
        x = of(3, "bit 0 1;weigh 0 0 2;");
        grown(x, 0, 2, 3, 3, 1, 1);
        is(x, 1, "peeledAt", 0);
        // a square in space and time: 4, 9, 12 and 17 join checks 0 and 3 in two layers, 17 closes it
        x = of(3, "bit 1 1;round;bit 1 1;");
        grown(x, 0, 1, 4, 3, 2, 2);
        is(x, 9, "peeledAt", 0);
        is(x, 12, "peeledAt", 1);
    }

    private static void peeled() {
        doc.term("PEELED are those of the FOREST that part it so that on the side without the BORDER (without it in that tree: on either) an odd number of EVENTS is.");
        // without the border: the tree is qubit 4 alone
        WovenKeeper x = of(3, "bit 1 1;");
        is(x, 1, "grow", 0);
        is(x, 4, "peeledAt", 0);
        refused(x, "peeledAt", 1);
        refused(x, "peeledAt", -1);
        // with it: 0 alone has an event on its far side, 3 and 4 have none
        x = of(3, "bit 0 0;");
        is(x, 1, "grow", 0);
        is(x, 0, "peeledAt", 0);
        refused(x, "peeledAt", 1);
        // two edges from the border: the event of check 4 lies behind 6, and behind 0 with it
        x = of(5, "bit 1 1;bit 0 0;");
        grown(x, 0, 4, 16, 10, 2, 2);
        is(x, 0, "peeledAt", 0);
        is(x, 6, "peeledAt", 1);
        // a tree of 3, 4 and 5 without it: two events on either side of 4
        x = of(3, allLoud(3));
        is(x, 2, "grow", 0);
        is(x, 3, "peeledAt", 0);
        is(x, 5, "peeledAt", 1);
        refused(x, "peeledAt", 2);
    }

    private static void correctionInAllLayers() {
        doc.term("QUBITS on an odd number of whose EDGES (in all LAYERS) WAYS go (that are PEELED).");
        // check 0 changes in each layer and is late: each event goes to the border by qubit 0
        for (int rounds = 0; rounds <= 8; rounds++) {
            String turns = rounds == 0 ? "" : "again " + rounds + "[bit 0 0;round;];";
            WovenKeeper x = of(3, turns + "bit 0 0;late bit 0 9;");
            is(x, rounds + 1, "pair", 0);
            is(x, (rounds + 1) % 2, "correction", 0, 0);
            is(x, (rounds + 1) % 2, "correction", 0, 1);
            is(x, rounds + 1, "grow", 0);
        }
    }

    private static void lightest() {
        doc.term("By what is LIGHTEST: of all LIKE sets (3) that of the least WEIGHT together, of like ones the least as bits.");
        is(of(3), 0, "correction", 0, 2);
        is(of(3, "bit 0 1;"), 1, "correction", 0, 2);
        is(of(3, "bit 0 1;weigh 0 0 2;"), 2, "correction", 0, 2);
        is(of(3, "bit 0 1;weigh 0 0 2;weigh 0 1 2;"), 1, "correction", 0, 2);
        // qubits 0 and 1 weigh 3 each; 3 and 6, 4 and 7, 4 and 8 weigh 2 together
        is(of(3, "bit 0 1;weigh 0 0 3;weigh 0 1 3;"), 8 | 64, "correction", 0, 2);
        is(of(3, "bit 0 1;weigh 0 0 3;weigh 0 1 3;weigh 1 0 2;"), 16 | 128, "correction", 0, 2);
        // nothing is loud by a chain: no qubit at all is the lightest
        WovenKeeper x = new WovenKeeper();
        x.chain(0);
        is(x, 0, "correction", 0, 2);
        // and of all that are loud: checks 0 and 3 by 4, or one by one at the border
        is(of(3, allLoud(3)), 8 | 32, "correction", 0, 2);
    }

    private static void left() {
        doc.term("LEFT: SLIPS now and CORRECTION, but where both are: no CHECK of the KIND is LOUD by it; its LOGICAL is the RESULT.");
        for (int d : SIZES) {
            for (int how = 0; how < 3; how++) {
                WovenKeeper x = of(d, allLoud(d));
                int due = x.result(0, how);
                int slips = x.now(3) ^ x.correction(0, how);
                is(x, Integer.bitCount(x.correction(0, how)), "correct", 0, how);
                is(x, slips, "now", 3);
                is(x, 0, "now", 5);
                DUE.is("its logical", Integer.bitCount(slips & (1 << d) - 1) % 2, due);
            }
        }
        // both are on one qubit, in row 0 and in none: nothing is left
        for (String text : new String[] {"bit 0 0;", "bit 1 1;"}) {
            for (int how = 0; how < 3; how++) {
                WovenKeeper x = of(3, text);
                is(x, 0, "result", 0, how);
                is(x, 1, "correct", 0, how);
                is(x, 0, "now", 3);
            }
        }
        // they are side by side in row 0, or one of them alone is in it
        for (int how = 0; how < 3; how++) {
            is(of(3, "bit 0 1;"), 0, "result", 0, how);
            is(of(3, "bit 1 0;bit 2 0;"), 1, "result", 0, how);
        }
    }

    private static void distance() {
        doc.term("A CHAIN of a KIND is a set of QUBITS by which no CHECK of it is LOUD, and its LOGICAL is 1: the least WEIGHT of one is the DISTANCE.");
        for (int d : SIZES) {
            WovenKeeper x = of(d);
            is(x, d, "distance", 0);
            is(x, d, "distance", 1);
            for (int row = 0; row < d; row++) {
                StringBuilder text = new StringBuilder();
                for (int column = 0; column < d; column++) {
                    text.append("weigh ").append(row).append(' ').append(column).append(" 9;");
                }
                Tape.work(x, text.toString());
                is(x, d + 8 * (row + 1), "distance", 0);
                is(x, row < d - 1 ? d : 9 * d, "distance", 1);
            }
        }
    }

    private static void likeSets() {
        doc.term("LIKE are sets of QUBITS by which, as SLIPS, the same CHECKS are LOUD as now.");
        for (int d : SIZES) {
            for (String text : new String[] {"", "both 1 1;", allLoud(d)}) {
                WovenKeeper x = of(d, text);
                for (int n = 0; n < 4; n++) {
                    int all = 0;
                    for (int many = 0; many <= d * d; many++) {
                        all += x.like(n / 2, n % 2, many);
                    }
                    DUE.is("like sets in all", all, 1 << x.now(2));
                    is(x, all, "odds", n / 2, n % 2, 1, 1);
                }
            }
        }
        // of now, not of what was read
        WovenKeeper x = of(3, "bit 1 1;miss bit 1;round;bit 1 1;");
        is(x, 1, "like", 0, 0, 0);
        is(x, 0, "fewest", 0, 0);
    }

    /** The seed from which the n-th draw behind it (from 1) is made of s. */
    private static int seedAhead(int s, int n) {
        // the number by which the factor comes to 1, by wrapping
        int back = 1103515245;
        for (int i = 0; i < 5; i++) {
            back *= 2 - 1103515245 * back;
        }
        for (int i = 0; i < n; i++) {
            s = (s - 12345) * back;
        }
        return s;
    }

    private static void drawsOfQubits() {
        doc.term("QUBIT by QUBIT a draw of 64: below e a SLIP of KIND 0, else below 2 e of KIND 1, else below 3 e of both");
        for (int draw = 0; draw < 64; draw++) {
            for (int e = 0; e <= 21; e++) {
                WovenKeeper x = new WovenKeeper();
                x.drawn(1, e, seedAhead(draw << 8 | 77, 1));
                boolean bit = draw < e || (draw >= 2 * e && draw < 3 * e);
                boolean phase = draw >= e && draw < 3 * e;
                DUE.is("a draw of " + draw + " by " + e + ": a bit", x.now(3) & 1, bit ? 1 : 0);
                DUE.is("a draw of " + draw + " by " + e + ": a phase", x.now(4) & 1, phase ? 1 : 0);
            }
            // the last qubit's draw is the 25th
            WovenKeeper x = of(5);
            x.drawn(1, 9, seedAhead(draw << 8, 25));
            DUE.is("the last draw of " + draw + ": a bit", x.now(3) >> 24, draw < 9 || (draw >= 18 && draw < 27) ? 1 : 0);
            DUE.is("the last draw of " + draw + ": a phase", x.now(4) >> 24, draw >= 9 && draw < 27 ? 1 : 0);
        }
    }

    private static void drawsOfChecks() {
        doc.term("then CHECK by CHECK, KIND 0 first, a draw of 64: below e it is MARKED (or not any more); then a ROUND.");
        for (int draw = 0; draw < 64; draw++) {
            for (int e = 0; e <= 21; e++) {
                int due = draw < e ? 1 : 0;
                for (int k = 0; k < 8; k++) {
                    WovenKeeper x = new WovenKeeper();
                    x.drawn(1, e, seedAhead(draw << 8 | 5, 10 + k));
                    DUE.is("read wrong by a draw of " + draw, (x.reading(k / 4, 0) ^ x.now(5 + k / 4)) >> k % 4 & 1, due);
                }
                WovenKeeper x = of(3, "miss phase 3;");
                x.drawn(1, e, seedAhead(draw << 8 | 5, 17));
                DUE.is("not any more by a draw of " + draw, (x.reading(1, 0) ^ x.now(6)) >> 3, 1 - due);
            }
        }
    }

    private static void drawsWrap() {
        doc.term("s becomes s * 1103515245 + 12345 (an int, wrapping), the draw is (s >>> 8) % n.");
        // behind 0 comes 12345: 48; what is negative is shifted without its sign
        WovenKeeper x = new WovenKeeper();
        x.drawn(1, 17, 0);
        DUE.is("behind 0: both", (x.now(3) & 1) + 2 * (x.now(4) & 1), 3);
        x = new WovenKeeper();
        x.drawn(1, 16, 0);
        DUE.is("behind 0: none", (x.now(3) & 1) + 2 * (x.now(4) & 1), 0);
        for (int s : new int[] {-1, LOW, HIGH, LOW | 255, -256}) {
            x = new WovenKeeper();
            x.drawn(1, 21, seedAhead(s, 1));
            long draw = (s & 0xffffffffL) / 256 % 64;
            int due = draw < 21 ? 1 : draw < 42 ? 2 : draw < 63 ? 3 : 0;
            DUE.is("behind it comes " + s, (x.now(3) & 1) + 2 * (x.now(4) & 1), due);
        }
        // both seeds lie as far apart as can be
        DUE.is("drawn by the highest seed", of(5).drawn(8, 21, HIGH) > 0, true);
        DUE.is("drawn by the lowest seed", of(5).drawn(8, 21, LOW) > 0, true);
    }

    private static void roundsOfDraws() {
        doc.term("DRAWN by a seed s: for each draw of n s becomes");
        doc.term("For so many ROUNDS: QUBIT by QUBIT");
        for (int d : SIZES) {
            for (int rounds = 1; rounds <= 8; rounds++) {
                // a round's draws go on where those of the one ahead ended
                WovenKeeper x = of(d);
                WovenKeeper y = of(d);
                int s = HIGH - rounds;
                int came = 0;
                for (int n = 0; n < rounds; n++) {
                    came += y.drawn(1, 7, s);
                    for (int draw = 0; draw < 2 * d * d - 1; draw++) {
                        s = s * 1103515245 + 12345;
                    }
                }
                is(x, came, "drawn", rounds, 7, HIGH - rounds);
                is(x, y.now(3), "now", 3);
                is(x, y.now(4), "now", 4);
                is(x, rounds, "now", 1);
                for (int round = 0; round < rounds; round++) {
                    is(x, y.reading(0, round), "reading", 0, round);
                    is(x, y.reading(1, round), "reading", 1, round);
                }
                is(x, 0, "undo");
                is(x, 0, "now", 1);
            }
        }
    }
}
