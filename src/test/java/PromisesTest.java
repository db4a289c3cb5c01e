import java.math.BigInteger;
import java.util.NoSuchElementException;

/** Each promise of the document by itself: ordinary inputs, edges and wrong inputs, worked out by hand. */
public final class PromisesTest {
    private static final Due DUE = new Due("PromisesTest");
    private static final int LOW = Integer.MIN_VALUE;
    private static final int HIGH = Integer.MAX_VALUE;

    public static void main(String[] args) {
        newObject();
        feed();
        end();
        code();
        work();
        workLimits();
        fault();
        faultsOfSigns();
        faultsOfNumbers();
        faultsOfManyAndDeep();
        now();
        check();
        qubit();
        reading();
        events();
        far();
        waysOfLikeWeight();
        pair();
        pairMany();
        pairings();
        grow();
        growHeavy();
        blame();
        edges();
        correction();
        result();
        correct();
        distance();
        like();
        odds();
        press();
        chain();
        line();
        fewest();
        drawn();
        often();
        undo();
        images();
        DUE.close();
    }

    private static WovenKeeper after(String text) {
        WovenKeeper x = new WovenKeeper();
        int done = Tape.work(x, text);
        DUE.is("work() of " + text + " is right", done >= 0, true);
        return x;
    }

    private static WovenKeeper large(String text) {
        WovenKeeper x = new WovenKeeper();
        x.code(5);
        int done = Tape.work(x, text);
        DUE.is("work() of " + text + " is right", done >= 0, true);
        return x;
    }

    private static String times(int n, String text) {
        return text.repeat(n);
    }

    // Promise 1
    private static void newObject() {
        WovenKeeper x = new WovenKeeper();
        int[] due = {3, 0, 4, 0, 0, 0, 0, 0, 0, 0};
        for (int what = 0; what < due.length; what++) {
            DUE.is("new: now(" + what + ")", x.now(what), due[what]);
        }
        DUE.is("new: undo()", x.undo(), -1);
        DUE.is("new: restore(0)", x.restore(0), false);
        DUE.is("new: fault()", x.fault(), 0);
        DUE.is("NONE", WovenKeeper.NONE, -1);
    }

    // Promise 2
    private static void feed() {
        WovenKeeper x = new WovenKeeper();
        for (int n = 1; n <= 12; n++) {
            DUE.is("feed " + n, x.feed(0, 0, 0, 0, 0), 20 * n);
        }
        DUE.is("feed beyond 240", x.feed(0, 0, 0, 0, 0), -1);
        DUE.is("beyond 240: now(9)", x.now(9), 240);
        x.end(221);
        DUE.is("feed behind 221", x.feed(0, 0, 0, 0, 0), -1);
        DUE.is("behind 221: now(9)", x.now(9), 221);
        x.end(220);
        DUE.is("feed behind 220", x.feed(0, 0, 0, 0, 0), 240);
        x = new WovenKeeper();
        x.feed(0x62697420, 0x31203220, 0x3b626974, 0x20302030, 0x20202020);
        x.feed(0x3b202020, 0x20202020, 0x20202020, 0x20202020, 0x20202020);
        DUE.is("work() of what was fed", x.work(), 2);
        DUE.is("bit 1 2 and bit 0 0", x.now(3), 1 << 5 | 1);
        x.feed(0xff000000, 0, 0, 0, 0);
        DUE.is("a byte of 255 can't stand", x.work(), -1000);
    }

    // Promise 3
    private static void end() {
        WovenKeeper x = new WovenKeeper();
        DUE.is("end(0) of none", x.end(0), true);
        DUE.is("end(1) of none", x.end(1), false);
        DUE.is("end(-1)", x.end(-1), false);
        DUE.is("end(lowest)", x.end(LOW), false);
        x.feed(0x20202020, 0x20202020, 0x41414141, 0, 0);
        DUE.is("end(21) of 20", x.end(21), false);
        DUE.is("end(20) of 20", x.end(20), true);
        DUE.is("end(8) of 20", x.end(8), true);
        DUE.is("end(8): now(9)", x.now(9), 8);
        DUE.is("end(9) of 8", x.end(9), false);
        DUE.is("only blanks are left", x.work(), 0);
        x.feed(0x20202020, 0, 0, 0, 0);
        x.end(1);
        x.feed(0x20202020, 0x20202020, 0x20202020, 0x20202020, 0x20202020);
        DUE.is("feed comes behind the end", x.work(), 0);
    }

    // Promise 4
    private static void code() {
        WovenKeeper x = after("bit 1 1;round;weigh 0 0 4;late bit 1 3;miss phase 2;");
        x.image(1);
        x.feed(0x20202020, 0, 0, 0, 0);
        for (int size : new int[] {4, 0, 1, 2, 6, 7, -3, -5, LOW, HIGH}) {
            DUE.is("code(" + size + ")", x.code(size), -1);
        }
        DUE.is("code(4) leaves all: now(3)", x.now(3), 16);
        DUE.is("code(5)", x.code(5), 25);
        int[] due = {5, 0, 12, 0, 0, 0, 0, 0, 0, 20};
        for (int what = 0; what < due.length; what++) {
            DUE.is("code(5): now(" + what + ")", x.now(what), due[what]);
        }
        DUE.is("code(5): weight", x.qubit(0, 0), 1);
        DUE.is("code(5): lateness", x.check(0, 1, 3), 1);
        DUE.is("code(5): undo()", x.undo(), -1);
        DUE.is("code(3)", x.code(3), 9);
        DUE.is("code(3): now(0)", x.now(0), 3);
        DUE.is("images stay", x.restore(1), true);
        DUE.is("images stay: now(3)", x.now(3), 16);
    }

    // Promise 5
    private static void work() {
        WovenKeeper x = new WovenKeeper();
        DUE.is("work() of nothing", x.work(), 0);
        DUE.is("bit", Tape.work(x, "bit 0 2;"), 1);
        DUE.is("bit: now(3)", x.now(3), 4);
        DUE.is("phase", Tape.work(x, "phase 2 0;"), 1);
        DUE.is("phase: now(4)", x.now(4), 64);
        DUE.is("both", Tape.work(x, "both 0 2;"), 1);
        DUE.is("both: now(3)", x.now(3), 0);
        DUE.is("both: now(4)", x.now(4), 68);
        DUE.is("miss", Tape.work(x, "miss bit 3;miss phase 0;miss phase 1;miss phase 0;"), 4);
        DUE.is("miss: now(7)", x.now(7), 8);
        DUE.is("miss: now(8)", x.now(8), 2);
        DUE.is("round", Tape.work(x, "round;"), 1);
        DUE.is("round: now(1)", x.now(1), 1);
        DUE.is("round: now(7)", x.now(7), 0);
        DUE.is("round: now(8)", x.now(8), 0);
        DUE.is("weigh", Tape.work(x, "weigh 1 2 9;"), 1);
        DUE.is("weigh: its weight", x.qubit(5, 0), 9);
        DUE.is("late", Tape.work(x, "late phase 2 7;"), 1);
        DUE.is("late: its lateness", x.check(1, 2, 3), 7);
        DUE.is("late: of the other kind", x.check(0, 2, 3), 1);
        DUE.is("again", Tape.work(x, "again 3[bit 0 0;bit 0 1;];"), 6);
        DUE.is("again: now(3)", x.now(3), 3);
        DUE.is("again within again", Tape.work(x, "again 3[again 3[bit 2 2;];bit 2 1;];"), 12);
        DUE.is("again within again: now(3)", x.now(3), 3 + 256 + 128);
        DUE.is("no blanks", Tape.work(x, "bit0 0;again1[];miss bit0;"), 2);
        DUE.is("many blanks", Tape.work(x, "  bit  0   0  ;  again  1  [  round ; ]  ;  "), 2);
        DUE.is("noughts ahead", Tape.work(x, "bit 000000000000000000002 01;"), 1);
        DUE.is("the tape is empty then", x.now(9), 0);
        DUE.is("large: bit 4 4", Tape.work(large(""), "bit 4 4;miss bit 11;late phase 11 2;"), 3);
    }

    private static void workLimits() {
        WovenKeeper x = new WovenKeeper();
        DUE.is("eight rounds of ten", Tape.work(x, "again 9[round;];round;"), 8);
        DUE.is("eight rounds: now(1)", x.now(1), 8);
        DUE.is("a ninth round leaves marks", Tape.work(x, "miss bit 0;round;"), 1);
        DUE.is("a ninth round leaves marks: now(7)", x.now(7), 1);
        x = new WovenKeeper();
        DUE.is("81 steps", Tape.work(x, "again 9[again 9[bit 0 0;];];"), 81);
        DUE.is("81 steps: now(3)", x.now(3), 1);
        x = new WovenKeeper();
        DUE.is("162 steps", Tape.work(x, "again 9[again 9[bit 0 0;bit 0 1;];];bit 2 2;"), 100);
        DUE.is("162 steps: now(3)", x.now(3), 0);
        x = new WovenKeeper();
        DUE.is("99 and some", Tape.work(x, "again 9[again 9[bit 0 0;];bit 0 0;bit 0 1;];bit 1 1;bit 2 2;"), 100);
        DUE.is("99 and some: now(3)", x.now(3), 1 << 1 | 1 << 4);
        x = new WovenKeeper();
        DUE.is("rounds not done are begun", Tape.work(x, "again 9[again 9[bit 0 0;round;];];"), 58);
        x = new WovenKeeper();
        DUE.is("30 steps", Tape.work(x, times(30, "round;")), 8);
        DUE.is("agains are steps", Tape.work(x, times(12, "again 9[round;];")), 0);
        DUE.is("200 blanks", Tape.work(x, times(200, " ")), 0);
    }

    // Promise 6
    private static void fault() {
        WovenKeeper x = new WovenKeeper();
        DUE.is("fault() ahead of any", x.fault(), 0);
        DUE.is("a fault's answer", Tape.work(x, "bit 0 0;bit 1 ;"), -1014);
        DUE.is("fault()", x.fault(), 1);
        DUE.is("none is done with a fault", x.now(3), 0);
        DUE.is("nothing to undo with a fault", x.undo(), -1);
        DUE.is("the tape is empty with a fault", x.now(9), 0);
        Tape.work(x, "bit 0 9;");
        DUE.is("fault() of the latest", x.fault(), 2);
        Tape.work(x, "bit 0 0;");
        DUE.is("fault() without one", x.fault(), 0);
    }

    private static void faulty(String text, int kind, int place) {
        WovenKeeper x = new WovenKeeper();
        DUE.is("work() of '" + text + "'", Tape.work(x, text), -1000 - place);
        DUE.is("fault() of '" + text + "'", x.fault(), kind);
    }

    private static void faultsOfSigns() {
        faulty("bit 1 1", 1, 7);
        faulty("bit 1 1   ", 1, 10);
        faulty("bit", 1, 3);
        faulty("bit 1;", 1, 5);
        faulty("bit 11;", 2, 4);
        faulty("bits 1 1;", 1, 0);
        faulty("bitz 1 1;", 1, 0);
        faulty("fit 1 1;", 1, 0);
        faulty("bib 1 1;", 1, 0);
        faulty("  bi 1 1;", 1, 2);
        faulty("missbit 0;", 1, 0);
        faulty("miss both 0;", 1, 5);
        faulty("miss 0;", 1, 5);
        faulty("late phases 0 1;", 1, 5);
        faulty("Bit 1 1;", 1, 0);
        faulty("bit 1 1;]", 1, 8);
        faulty("]", 1, 0);
        faulty(";", 1, 0);
        faulty("bit 1 1;;", 1, 8);
        faulty("round 1;", 1, 6);
        faulty("again 2[bit 0 0;", 1, 16);
        faulty("again 2[bit 0 0;]", 1, 17);
        faulty("again 2[bit 0 0];", 1, 15);
        faulty("again 2 bit 0 0;", 1, 8);
        faulty("again [];", 1, 6);
        faulty("bit\t1 1;", 1, 3);
        faulty("bit -1 1;", 1, 4);
        faulty("bit 1 1;x", 1, 8);
        faulty(times(201, " "), 1, 200);
        faulty(times(240, "#"), 1, 200);
        faulty(times(199, " ") + "#", 1, 199);
    }

    private static void faultsOfNumbers() {
        faulty("bit 3 0;", 2, 4);
        faulty("bit 0 3;", 2, 6);
        faulty("bit 3 x;", 2, 4);
        faulty("phase 0 4294967296;", 2, 8);
        faulty("phase 0 18446744073709551617;", 2, 8);
        faulty("both 0 99999999999999999999999999999999;", 2, 7);
        faulty("miss bit 4;", 2, 9);
        faulty("miss phase 12;", 2, 11);
        faulty("late bit 4 1;", 2, 9);
        faulty("late bit 3 0;", 2, 11);
        faulty("late bit 3 10;", 2, 11);
        faulty("weigh 0 0 0;", 2, 10);
        faulty("weigh 0 0 10;", 2, 10);
        faulty("weigh 3 0 1;", 2, 6);
        faulty("again 0[];", 2, 6);
        faulty("again 10[];", 2, 6);
        WovenKeeper x = large("");
        DUE.is("large: bit 5 0", Tape.work(x, "bit 5 0;"), -1004);
        DUE.is("large: miss bit 12", Tape.work(x, "miss bit 12;"), -1009);
    }

    private static void faultsOfManyAndDeep() {
        faulty(times(31, "round;"), 3, 180);
        faulty(times(30, "round;") + "round", 3, 180);
        faulty(times(30, "round;") + "rounds;", 1, 180);
        faulty(times(30, "round;") + " 1", 1, 181);
        faulty(times(28, "round;") + "again 1[round;round;];", 3, 28 * 6 + 14);
        faulty(times(4, "again 1[];") + times(26, "round;") + "bit", 3, 196);
        faulty("again 1[again 1[again 1[round;];];];", 4, 16);
        faulty("again 1[again 1[again", 4, 16);
        faulty("again 1[again 1[" + times(28, "round;") + "again 1[", 3, 184);
        faulty("again 1[again 1[" + times(27, "round;") + "again 1[", 4, 178);
        WovenKeeper x = new WovenKeeper();
        DUE.is("two agains side by side", Tape.work(x, "again 1[again 1[];again 1[];];again 1[];"), 0);
    }

    // Promise 7
    private static void now() {
        WovenKeeper x = large("bit 0 0;phase 4 4;miss bit 2;miss phase 11;round;both 1 1;miss phase 3;");
        x.feed(0, 0, 0, 0, 0);
        int[] due = {5, 1, 12, 1 | 1 << 6, 1 << 24 | 1 << 6};
        for (int what = 0; what < due.length; what++) {
            DUE.is("large: now(" + what + ")", x.now(what), due[what]);
        }
        DUE.is("large: now(7)", x.now(7), 0);
        DUE.is("large: now(8)", x.now(8), 8);
        DUE.is("large: now(9)", x.now(9), 20);
        x = after("bit 0 1;phase 0 1;");
        DUE.is("loud bits", x.now(5), 1);
        DUE.is("loud phases", x.now(6), 3);
        for (int what : new int[] {-1, 10, LOW, HIGH}) {
            DUE.is("now(" + what + ")", x.now(what), -1);
        }
    }

    private static int checkOrThrow(WovenKeeper x, int kind, int k, int what) {
        try {
            return x.check(kind, k, what);
        } catch (NoSuchElementException e) {
            return -7;
        }
    }

    private static int qubitOrThrow(WovenKeeper x, int q, int what) {
        try {
            return x.qubit(q, what);
        } catch (NoSuchElementException e) {
            return -7;
        }
    }

    private static int edgeOrThrow(WovenKeeper x, int kind, int e, int what) {
        try {
            return x.edge(kind, e, what);
        } catch (NoSuchElementException e1) {
            return -7;
        }
    }

    // Promise 8
    private static void check() {
        WovenKeeper x = after("late bit 2 8;");
        int[][] due = {{1, 1, 27}, {1, 3, 36}, {2, 0, 72}, {2, 2, 432}, {0, 1, 3}, {1, 2, 54}, {2, 1, 216}, {3, 2, 384}};
        for (int n = 0; n < 8; n++) {
            for (int what = 0; what < 3; what++) {
                DUE.is("check(" + n / 4 + ", " + n % 4 + ", " + what + ")", checkOrThrow(x, n / 4, n % 4, what), due[n][what]);
            }
        }
        DUE.is("check(0, 2, 3)", checkOrThrow(x, 0, 2, 3), 8);
        DUE.is("check(1, 2, 3)", checkOrThrow(x, 1, 2, 3), 1);
        int[][] none = {{2, 0, 0}, {-1, 0, 0}, {0, 4, 0}, {0, -1, 0}, {0, 0, 4}, {0, 0, -1}, {HIGH, HIGH, HIGH}, {LOW, LOW, LOW}};
        for (int[] n : none) {
            DUE.is("check of none", checkOrThrow(x, n[0], n[1], n[2]), -7);
        }
        x.code(5);
        int[] rows = {1, 1, 1, 2, 2, 2, 3, 3, 3, 4, 4, 4};
        int[] columns = {1, 3, 5, 0, 2, 4, 1, 3, 5, 0, 2, 4};
        for (int k = 0; k < 12; k++) {
            DUE.is("large: its row", checkOrThrow(x, 0, k, 0), rows[k]);
            DUE.is("large: its column", checkOrThrow(x, 0, k, 1), columns[k]);
            DUE.is("large: four or two", Integer.bitCount(checkOrThrow(x, 1, k, 2)), k < 2 || k > 9 ? 2 : 4);
        }
        DUE.is("large: the last", checkOrThrow(x, 1, 11, 2), 1 << 23 | 1 << 24);
        DUE.is("large: behind the last", checkOrThrow(x, 1, 12, 2), -7);
    }

    // Promise 9
    private static void qubit() {
        WovenKeeper x = after("weigh 1 1 6;");
        int[] bits = {1, 1, 2, 5, 9, 10, 4, 8, 8};
        int[] phases = {1, 3, 2, 4, 6, 2, 4, 12, 8};
        for (int q = 0; q < 9; q++) {
            DUE.is("qubit(" + q + ", 0)", qubitOrThrow(x, q, 0), q == 4 ? 6 : 1);
            DUE.is("qubit(" + q + ", 1)", qubitOrThrow(x, q, 1), bits[q]);
            DUE.is("qubit(" + q + ", 2)", qubitOrThrow(x, q, 2), phases[q]);
        }
        int[][] none = {{9, 0}, {-1, 0}, {0, 3}, {0, -1}, {HIGH, 0}, {0, LOW}};
        for (int[] n : none) {
            DUE.is("qubit of none", qubitOrThrow(x, n[0], n[1]), -7);
        }
        x.code(5);
        DUE.is("large: qubit(24, 0)", qubitOrThrow(x, 24, 0), 1);
        DUE.is("large: qubit(25, 0)", qubitOrThrow(x, 25, 0), -7);
    }

    // Promise 10
    private static void reading() {
        WovenKeeper x = after("bit 1 1;miss bit 0;miss phase 3;round;round;bit 1 1;");
        DUE.is("reading(0, 0)", x.reading(0, 0), 8);
        DUE.is("reading(1, 0)", x.reading(1, 0), 8);
        DUE.is("reading(0, 1)", x.reading(0, 1), 9);
        DUE.is("reading(1, 1)", x.reading(1, 1), 0);
        int[][] none = {{0, 2}, {0, -1}, {2, 0}, {-1, 0}, {0, HIGH}, {LOW, 0}};
        for (int[] n : none) {
            DUE.is("reading of none", x.reading(n[0], n[1]), -1);
        }
    }

    // Promises 11, 12
    private static void events() {
        WovenKeeper x = after("bit 1 1;miss bit 0;round;round;bit 1 1;");
        // layers: 8, 9, 0
        int[][] due = {{3, 0}, {0, 1}, {0, 2}, {3, 2}};
        DUE.is("events(0)", x.events(0), 4);
        DUE.is("events(1)", x.events(1), 0);
        for (int i = 0; i < 4; i++) {
            DUE.is("event(0, " + i + ", 0)", x.event(0, i, 0), due[i][0]);
            DUE.is("event(0, " + i + ", 1)", x.event(0, i, 1), due[i][1]);
        }
        int[][] none = {{0, 4, 0}, {0, -1, 0}, {0, 0, 2}, {0, 0, -1}, {1, 0, 0}, {2, 0, 0}, {LOW, HIGH, LOW}};
        for (int[] n : none) {
            DUE.is("event of none", x.event(n[0], n[1], n[2]), -1);
        }
        DUE.is("events(2)", x.events(2), -1);
        DUE.is("events(-1)", x.events(-1), -1);
        x = large("again 8[both 0 0;both 2 2;round;];both 0 0;");
        // (0, 0): on one check each, in all nine layers; (2, 2): on two, but not in the last
        DUE.is("large: events(0)", x.events(0), 9 + 8 * 2);
        DUE.is("large: events(1)", x.events(1), 9 + 8 * 2);
    }

    // Promises 13, 14
    private static void far() {
        WovenKeeper x = after("bit 0 0;bit 2 1;round;");
        DUE.is("far(0, 0, 1)", x.far(0, 0, 1), 1);
        DUE.is("way(0, 0, 1, 0)", x.way(0, 0, 1, 0), 4);
        DUE.is("way(0, 0, 1, 1)", x.way(0, 0, 1, 1), -1);
        DUE.is("way(0, 0, 1, -1)", x.way(0, 0, 1, -1), -1);
        DUE.is("far(0, 0, -1)", x.far(0, 0, -1), 1);
        int[][] none = {{0, 0, 0}, {0, 1, 1}, {0, -1, -1}, {0, 2, 0}, {0, 0, 2}, {0, 0, -2}, {0, -1, 0}, {1, 0, -1}, {2, 0, 1}, {0, LOW, HIGH}};
        for (int[] n : none) {
            DUE.is("far of none", x.far(n[0], n[1], n[2]), -1);
            DUE.is("way of none", x.way(n[0], n[1], n[2], 0), -1);
        }
        // the way round by time is lighter than the qubit, but the border is never between
        x = after("bit 0 0;bit 2 1;weigh 1 1 9;weigh 1 0 9;weigh 1 2 9;weigh 0 2 9;weigh 2 0 9;");
        DUE.is("far not through the border", x.far(0, 0, 1), 9);
        DUE.is("far to the border", x.far(0, 0, -1), 1);
        // in layer 0 the qubit weighs 9 too; check 1 has its border by qubit 2 alone
        x = after("bit 0 2;weigh 0 2 9;weigh 1 2 2;weigh 2 1 3;");
        DUE.is("far round a heavy qubit", x.far(0, 0, -1), 3);
        DUE.is("its first edge", x.way(0, 0, -1, 0), 5);
        DUE.is("its second edge", x.way(0, 0, -1, 1), 8);
        DUE.is("no third edge", x.way(0, 0, -1, 2), -1);
        x = after("round;late bit 0 7;bit 0 0;");
        DUE.is("one event alone", x.events(0), 1);
        DUE.is("way to the border in its layer", x.way(0, 0, -1, 0), 13);
    }

    private static void waysOfLikeWeight() {
        WovenKeeper x = after("bit 0 0;round;bit 2 1;");
        DUE.is("far(0, 0, 1) in two layers", x.far(0, 0, 1), 2);
        DUE.is("from the first: 4, 12, not 9, 17", x.way(0, 0, 1, 0), 4);
        DUE.is("from the first: then 12", x.way(0, 0, 1, 1), 12);
        DUE.is("from the other: 12, 4, not 17, 9", x.way(0, 1, 0, 0), 12);
        DUE.is("from the other: then 4", x.way(0, 1, 0, 1), 4);
        DUE.is("the first of two borders", x.way(0, 1, -1, 0), 20);
        x = after("bit 0 0;round;bit 2 1;late bit 3 2;");
        DUE.is("a late check is gone round", x.way(0, 0, 1, 0), 9);
        DUE.is("a late check is gone round, then", x.way(0, 0, 1, 1), 17);
        x = after("bit 0 0;round;bit 2 1;late bit 3 9;late bit 0 9;");
        int[] round = {3, 11, 16, 17};
        DUE.is("late checks are gone round by another", x.far(0, 0, 1), 4);
        for (int k = 0; k < 4; k++) {
            DUE.is("late checks: way(0, 0, 1, " + k + ")", x.way(0, 0, 1, k), round[k]);
        }
    }

    // Promises 15, 16
    private static void pair() {
        WovenKeeper x = new WovenKeeper();
        DUE.is("partner(0) ahead of any", x.partner(0), -1);
        DUE.is("pair(0) of none", x.pair(0), 0);
        DUE.is("partner(0) of none", x.partner(0), -1);
        x = after("bit 0 0;round;bit 2 1;");
        DUE.is("two like pairings", x.pair(0), 2);
        DUE.is("the border is behind all: partner(0)", x.partner(0), 1);
        DUE.is("the border is behind all: partner(1)", x.partner(1), 0);
        DUE.is("pair(1)", x.pair(1), 0);
        DUE.is("the latest pair() tells", x.partner(0), -1);
        Tape.work(x, "weigh 1 1 5;weigh 1 0 5;late bit 0 5;late bit 3 5;");
        DUE.is("both to the border", x.pair(0), 2);
        DUE.is("both to the border: partner(0)", x.partner(0), -2);
        DUE.is("both to the border: partner(1)", x.partner(1), -2);
        DUE.is("partner(2)", x.partner(2), -1);
        DUE.is("partner(-1)", x.partner(-1), -1);
        DUE.is("partner(-2)", x.partner(-2), -1);
        DUE.is("partner(highest)", x.partner(HIGH), -1);
        DUE.is("pair(2)", x.pair(2), -1);
        DUE.is("pair(-1)", x.pair(-1), -1);
        x.code(5);
        x.correction(0, 0);
        x.pairings(0);
        x.often(0, 0, 1, 3, 1, 2);
        x.result(1, 0);
        DUE.is("what pair() told stays", x.partner(1), -2);
    }

    private static void pairMany() {
        WovenKeeper x = large("again 7[both 0 0;both 4 4;round;];");
        DUE.is("fourteen events", x.events(0), 14);
        DUE.is("fourteen: pair(0)", x.pair(0), 6 + 2);
        for (int i = 0; i < 14; i++) {
            // in time each with the next one of its own check; the last two are left to the border
            int due = i >= 12 ? -2 : i % 4 < 2 ? i + 2 : i - 2;
            DUE.is("fourteen: partner(" + i + ")", x.partner(i), due);
        }
        DUE.is("fourteen: partner(14)", x.partner(14), -1);
        Tape.work(x, "bit 2 2;");
        DUE.is("more than fourteen", x.events(0), 16);
        DUE.is("more than fourteen: pair(0)", x.pair(0), -1);
        DUE.is("more than fourteen: pairings(0)", x.pairings(0), -1);
        DUE.is("more than fourteen: correction(0, 0)", x.correction(0, 0), -1);
        DUE.is("more than fourteen: result(0, 0)", x.result(0, 0), -1);
        DUE.is("more than fourteen: correct(0, 0)", x.correct(0, 0), -1);
        DUE.is("more than fourteen: blame(0, 0, 0)", x.blame(0, 0, 0), -1);
        DUE.is("more than fourteen: blame(0, 1, 0)", x.blame(0, 1, 0) >= 0, true);
        DUE.is("more than fourteen: correction(0, 1)", x.correction(0, 1) >= 0, true);
        DUE.is("what pair() told stays", x.partner(0), 2);
    }

    // Promise 17
    private static void pairings() {
        DUE.is("pairings of none", new WovenKeeper().pairings(0), 1);
        WovenKeeper x = after("bit 0 0;round;bit 2 1;");
        DUE.is("two like pairings", x.pairings(0), 2);
        DUE.is("pairings(1)", x.pairings(1), 1);
        DUE.is("pairings(2)", x.pairings(2), -1);
        DUE.is("pairings(-1)", x.pairings(-1), -1);
        // one event: with the border alone
        x = after("bit 0 0;");
        DUE.is("one event", x.pairings(0), 1);
    }

    // Promises 18, 19, 20
    private static void grow() {
        WovenKeeper x = new WovenKeeper();
        for (int what = -1; what < 5; what++) {
            DUE.is("grown(" + what + ") ahead of any", x.grown(what), -1);
        }
        DUE.is("peeledAt(0) ahead of any", x.peeledAt(0), -1);
        Tape.work(x, "bit 0 0;round;bit 2 1;");
        DUE.is("grow(0)", x.grow(0), 2);
        // whole: 0 1 3 4 9 12 17 18 20 21; forest: 0 3 4 9 12 18; peeled: 4 12
        int[] due = {2, 10, 6, 2};
        for (int what = 0; what < 4; what++) {
            DUE.is("grown(" + what + ")", x.grown(what), due[what]);
        }
        DUE.is("peeledAt(0)", x.peeledAt(0), 4);
        DUE.is("peeledAt(1)", x.peeledAt(1), 12);
        for (int k : new int[] {-1, 2, LOW, HIGH}) {
            DUE.is("peeledAt(" + k + ")", x.peeledAt(k), -1);
        }
        for (int what : new int[] {-1, 4, LOW, HIGH}) {
            DUE.is("grown(" + what + ")", x.grown(what), -1);
        }
        DUE.is("grow(2)", x.grow(2), -1);
        DUE.is("grow(-1)", x.grow(-1), -1);
        x.correction(1, 1);
        x.often(1, 1, 1, 9, 3, 2);
        x.code(5);
        DUE.is("what grow() told stays", x.grown(1), 10);
        DUE.is("what grow() told stays: peeledAt(1)", x.peeledAt(1), 12);
        x.grow(0);
        DUE.is("the latest grow() tells", x.grown(1), 0);
        DUE.is("the latest grow() tells: peeledAt(0)", x.peeledAt(0), -1);
    }

    private static void growHeavy() {
        // check 0 alone: qubit 0 weighs 1 and is whole with two steps, qubit 1 is not
        WovenKeeper x = after("bit 0 0;weigh 0 1 2;");
        DUE.is("heavy: grow(0)", x.grow(0), 1);
        // whole: 0 3 4
        DUE.is("heavy: steps", x.grown(0), 2);
        DUE.is("heavy: whole", x.grown(1), 3);
        DUE.is("heavy: forest", x.grown(2), 3);
        DUE.is("heavy: peeled", x.grown(3), 1);
        DUE.is("heavy: peeledAt(0)", x.peeledAt(0), 0);
        // two ends grow at once: 4 of weight 3 is whole with three steps, 0 1 7 8 of 4 are not
        x = after("bit 1 1;weigh 1 1 3;weigh 0 0 4;weigh 0 1 4;weigh 2 1 4;weigh 2 2 4;weigh 1 0 4;weigh 1 2 4;");
        DUE.is("two ends: grow(0)", x.grow(0), 3);
        DUE.is("two ends: steps", x.grown(0), 3);
        DUE.is("two ends: whole", x.grown(1), 1);
        DUE.is("two ends: peeledAt(0)", x.peeledAt(0), 4);
    }

    // Promise 21
    private static void blame() {
        WovenKeeper x = after("bit 0 0;round;bit 2 1;");
        DUE.is("blame(0, 0, 0)", x.blame(0, 0, 0), 8);
        DUE.is("blame(0, 1, 0)", x.blame(0, 1, 0), 8);
        DUE.is("blame(1, 0, 0)", x.blame(1, 0, 0), 0);
        int[][] none = {{0, 0, 1}, {0, 0, -1}, {0, 2, 0}, {0, -1, 0}, {2, 0, 0}, {-1, 1, 0}, {0, 1, 1}, {0, 1, HIGH}};
        for (int[] n : none) {
            DUE.is("blame of none", x.blame(n[0], n[1], n[2]), -1);
        }
        x = after("round;miss phase 1;round;round;");
        DUE.is("a wrong reading: blame(1, 0, 1)", x.blame(1, 0, 1), 2);
        DUE.is("a wrong reading: blame(1, 1, 1)", x.blame(1, 1, 1), 2);
        DUE.is("a right reading: blame(1, 0, 0)", x.blame(1, 0, 0), 0);
        DUE.is("a right reading: blame(1, 1, 2)", x.blame(1, 1, 2), 0);
    }

    // Promises 22, 23
    private static void edges() {
        WovenKeeper x = after("weigh 1 1 7;late phase 2 5;round;");
        DUE.is("edges(0)", x.edges(0), 22);
        DUE.is("edges(1)", x.edges(1), 22);
        DUE.is("edges(2)", x.edges(2), -1);
        DUE.is("edges(-1)", x.edges(-1), -1);
        int[][] due = {{0, 0, 0, -1, 1}, {0, 4, 0, 3, 7}, {0, 13 + 5, 5, 7, 1}, {0, 13 + 6, 6, -1, 1}, {0, 9 + 2, 2, 6, 1}, {1, 9 + 2, 2, 6, 5}, {1, 13 + 4, 5, 6, 7}, {1, 13 + 8, 7, -1, 1}};
        for (int[] n : due) {
            for (int what = 0; what < 3; what++) {
                DUE.is("edge(" + n[0] + ", " + n[1] + ", " + what + ")", edgeOrThrow(x, n[0], n[1], what), n[2 + what]);
            }
        }
        int[][] none = {{0, 22, 0}, {0, -1, 0}, {0, 0, 3}, {0, 0, -1}, {2, 0, 0}, {-1, 0, 0}, {HIGH, HIGH, HIGH}};
        for (int[] n : none) {
            DUE.is("edge of none", edgeOrThrow(x, n[0], n[1], n[2]), -7);
        }
        x = large("again 8[round;];");
        DUE.is("large: edges(0)", x.edges(0), 321);
        DUE.is("large: the last edge", edgeOrThrow(x, 1, 320, 0), 8 * 12 + 11);
        DUE.is("large: behind the last edge", edgeOrThrow(x, 1, 321, 0), -7);
    }

    // Promise 24
    private static void correction() {
        WovenKeeper x = after("bit 0 0;round;bit 2 1;");
        DUE.is("correction(0, 0)", x.correction(0, 0), 16);
        DUE.is("correction(0, 1)", x.correction(0, 1), 16);
        DUE.is("correction(0, 2)", x.correction(0, 2), 16);
        DUE.is("correction(1, 0)", x.correction(1, 0), 0);
        int[][] none = {{2, 0}, {-1, 0}, {0, 3}, {0, -1}, {LOW, HIGH}};
        for (int[] n : none) {
            DUE.is("correction of none", x.correction(n[0], n[1]), -1);
            DUE.is("result of none", x.result(n[0], n[1]), -1);
            DUE.is("correct of none", x.correct(n[0], n[1]), -1);
        }
        DUE.is("it changes nothing", x.now(3), 129);
        // check 0 loud: 0 or 1 weigh the same, the least as bits is 0
        DUE.is("of like ones the least", after("bit 0 1;").correction(0, 2), 1);
        DUE.is("by weight", after("bit 0 1;weigh 0 0 2;").correction(0, 2), 2);
        DUE.is("two light ones for a heavy one", after("bit 1 1;weigh 1 1 3;").correction(0, 2), 1 | 128);
        // the same qubit's edges in two layers undo one another
        x = after("bit 0 0;round;bit 0 0;late bit 0 9;");
        DUE.is("two layers: pair(0)", x.pair(0), 2);
        DUE.is("two layers: partner(0)", x.partner(0), -2);
        DUE.is("two layers: correction(0, 0)", x.correction(0, 0), 0);
        DUE.is("two layers: blame(0, 0, 0)", x.blame(0, 0, 0), 0);
        DUE.is("two layers: correction(0, 1)", x.correction(0, 1), 0);
    }

    // Promise 25
    private static void result() {
        WovenKeeper x = after("bit 0 0;round;bit 2 1;");
        DUE.is("result(0, 0)", x.result(0, 0), 1);
        DUE.is("result(0, 1)", x.result(0, 1), 1);
        DUE.is("result(0, 2)", x.result(0, 2), 1);
        DUE.is("result(1, 0)", x.result(1, 0), 0);
        x = after("phase 1 1;");
        for (int how = 0; how < 3; how++) {
            DUE.is("one slip is mended by " + how, x.result(1, how), 0);
        }
        x.chain(1);
        for (int how = 0; how < 3; how++) {
            DUE.is("a chain is not seen by " + how, x.result(1, how), 1);
        }
    }

    // Promise 26
    private static void correct() {
        WovenKeeper x = after("bit 0 0;round;bit 2 1;phase 1 1;");
        DUE.is("correct(0, 0)", x.correct(0, 0), 1);
        DUE.is("correct(0, 0): now(3)", x.now(3), 1 | 16 | 128);
        DUE.is("correct(0, 0): now(4)", x.now(4), 16);
        DUE.is("correct(0, 0): nothing is loud", x.now(5), 0);
        DUE.is("correct(1, 1)", x.correct(1, 1), 1);
        DUE.is("correct(1, 1): now(4)", x.now(4), 0);
        DUE.is("correct(1, 2) of none", x.correct(1, 2), 0);
        DUE.is("undo() of three", x.undo(), 3);
        DUE.is("undo() of two", x.undo(), 2);
        DUE.is("undone: now(4)", x.now(4), 16);
        x = after("bit 1 1;weigh 1 1 3;");
        DUE.is("correct by two", x.correct(0, 2), 2);
        DUE.is("correct by two: now(3)", x.now(3), 1 | 16 | 128);
    }

    // Promise 27
    private static void distance() {
        WovenKeeper x = after("weigh 0 0 9;weigh 0 1 9;weigh 0 2 9;");
        DUE.is("distance(0)", x.distance(0), 11);
        DUE.is("distance(1)", x.distance(1), 3);
        Tape.work(x, "both 1 1;");
        DUE.is("slips don't matter", x.distance(0), 11);
        DUE.is("distance(2)", x.distance(2), -1);
        DUE.is("distance(-1)", x.distance(-1), -1);
        x = large("");
        DUE.is("large: distance(0)", x.distance(0), 5);
        DUE.is("large: distance(1)", x.distance(1), 5);
        Tape.work(x, "weigh 2 0 9;weigh 2 1 9;weigh 2 2 9;weigh 2 3 8;weigh 2 4 9;");
        DUE.is("large: the lightest of a row", x.distance(0), 12);
        DUE.is("large: round a heavy row", x.distance(1), 5);
    }

    // Promise 28
    private static void like() {
        WovenKeeper x = new WovenKeeper();
        int all = 0;
        for (int n = 0; n <= 9; n++) {
            all += x.like(0, 0, n) + x.like(0, 1, n);
        }
        DUE.is("all like sets", all, 32);
        DUE.is("like(0, 0, 0)", x.like(0, 0, 0), 1);
        DUE.is("like(0, 0, 2)", x.like(0, 0, 2), 2);
        DUE.is("like(0, 1, 2)", x.like(0, 1, 2), 0);
        DUE.is("like(0, 1, 9)", x.like(0, 1, 9), 1);
        int[][] none = {{0, 0, 10}, {0, 0, -1}, {0, 2, 0}, {0, -1, 0}, {2, 0, 0}, {-1, 0, 0}, {0, 0, HIGH}};
        for (int[] n : none) {
            DUE.is("like of none", x.like(n[0], n[1], n[2]), -1);
        }
        Tape.work(x, "bit 0 1;round;");
        DUE.is("by what is loud: like(0, 0, 1)", x.like(0, 0, 1), 0);
        DUE.is("by what is loud: like(0, 1, 1)", x.like(0, 1, 1), 2);
        DUE.is("by what is loud: like(1, 0, 0)", x.like(1, 0, 0), 1);
        x.code(5);
        all = 0;
        for (int n = 0; n <= 25; n++) {
            all += x.like(1, 1, n);
        }
        DUE.is("large: all of a logical", all, 4096);
        DUE.is("large: like(1, 1, 26)", x.like(1, 1, 26), -1);
        DUE.is("large: like(1, 1, 25)", x.like(1, 1, 25), 1);
    }

    // Promise 29
    private static void odds() {
        WovenKeeper x = new WovenKeeper();
        DUE.is("odds(0, 0, 1, 1)", x.odds(0, 0, 1, 1), 16);
        DUE.is("none of either is 1", x.odds(0, 0, 0, 2), 512);
        DUE.is("none of the other is 1", x.odds(0, 1, 2, 0), 512);
        DUE.is("odds(0, 1, 0, 99)", x.odds(0, 1, 0, 99), 0);
        long most = BigInteger.valueOf(94).pow(9).multiply(BigInteger.valueOf(16)).longValueExact();
        DUE.is("just below", x.odds(1, 0, 94, 94), most);
        DUE.is("just above", x.odds(1, 0, 95, 95), -1);
        int[][] none = {{2, 0, 1, 1}, {-1, 0, 1, 1}, {0, 2, 1, 1}, {0, -1, 1, 1}, {0, 0, 100, 1}, {0, 0, -1, 1}, {0, 0, 1, 100}, {0, 0, 1, -1}};
        for (int[] n : none) {
            DUE.is("odds of none", x.odds(n[0], n[1], n[2], n[3]), -1);
        }
        x.code(5);
        DUE.is("large: too much", x.odds(0, 0, 99, 99), -1);
        DUE.is("large: nothing of too much", x.odds(0, 0, 99, 0), 0);
        DUE.is("large: one set too heavy", x.odds(0, 1, 99, 0), -1);
        DUE.is("large: one set", x.odds(0, 1, 5, 0), BigInteger.valueOf(5).pow(25).longValueExact());
        DUE.is("large: 2 to the 37th", x.odds(0, 0, 2, 2), 1L << 37);
    }

    // Promise 30
    private static void press() {
        WovenKeeper x = new WovenKeeper();
        DUE.is("press(0, 0)", x.press(0, 0), 0);
        DUE.is("press(0, 0): now(4)", x.now(4), 27);
        DUE.is("press(0, 0): now(3)", x.now(3), 0);
        DUE.is("press(0, 0): nothing is loud", x.now(6), 0);
        DUE.is("press(1, 3)", x.press(1, 3), 0);
        DUE.is("press(1, 3): now(3)", x.now(3), 384);
        DUE.is("press(0, 0) again", x.press(0, 0), 0);
        DUE.is("press(0, 0) again: now(4)", x.now(4), 0);
        x.chain(1);
        DUE.is("press(0, 2): the other kind's logical", x.press(0, 2), 1);
        DUE.is("press(1, 2): the other kind's logical", x.press(1, 2), 0);
        int[][] none = {{0, 4}, {0, -1}, {2, 0}, {-1, 0}, {HIGH, HIGH}};
        int before = x.now(4);
        for (int[] n : none) {
            DUE.is("press of none", x.press(n[0], n[1]), -1);
        }
        DUE.is("press of none leaves all", x.now(4), before);
        DUE.is("press is undone", x.undo(), 5);
    }

    // Promise 31
    private static void chain() {
        WovenKeeper x = new WovenKeeper();
        DUE.is("chain(0)", x.chain(0), 1);
        DUE.is("chain(0): now(3)", x.now(3), 73);
        DUE.is("chain(0): nothing is loud", x.now(5), 0);
        DUE.is("chain(1)", x.chain(1), 1);
        DUE.is("chain(1): now(4)", x.now(4), 7);
        DUE.is("chain(1) again", x.chain(1), 0);
        DUE.is("chain(2)", x.chain(2), -1);
        DUE.is("chain(-1)", x.chain(-1), -1);
        DUE.is("chain is undone", x.undo(), 2);
        DUE.is("chain is undone: now(4)", x.now(4), 7);
        x.code(5);
        x.chain(0);
        DUE.is("large: chain(0)", x.now(3), 1 | 1 << 5 | 1 << 10 | 1 << 15 | 1 << 20);
    }

    // Promises 32, 33
    private static void line() {
        WovenKeeper x = new WovenKeeper();
        DUE.is("byteAt(0) ahead of any", x.byteAt(0), -1);
        DUE.is("line(-1)", x.line(-1), -1);
        DUE.is("byteAt(0) still ahead of any", x.byteAt(0), -1);
        String[] clean = {"  p    ", " . . . ", "  b p b", " . . . ", "b p b  ", " . . . ", "    p  "};
        for (int r = 0; r < 7; r++) {
            DUE.isText("line(" + r + ")", Tape.line(x, r), clean[r]);
        }
        Tape.work(x, "bit 0 0;phase 1 1;both 2 2;");
        // loud: bits 0 and 3; phases 1, 2 and 3
        String[] slips = {"  p    ", " + . . ", "  B P b", " . - . ", "b P B  ", " . . * ", "    P  "};
        for (int r = 0; r < 7; r++) {
            DUE.isText("slips: line(" + r + ")", Tape.line(x, r), slips[r]);
        }
        x.line(1);
        for (int r : new int[] {-1, 7, LOW, HIGH}) {
            DUE.is("line(" + r + ")", x.line(r), -1);
        }
        DUE.is("byteAt(1) of the latest", x.byteAt(1), '+');
        x.code(5);
        DUE.is("byteAt(1) stays", x.byteAt(1), '+');
        for (int i : new int[] {-1, 7, LOW, HIGH}) {
            DUE.is("byteAt(" + i + ")", x.byteAt(i), -1);
        }
        DUE.is("large: line(10)", x.line(10), 11);
        DUE.isText("large: line(0)", Tape.line(x, 0), "  p   p    ");
        DUE.isText("large: line(4)", Tape.line(x, 4), "b p b p b  ");
        DUE.isText("large: line(6)", Tape.line(x, 6), "  b p b p b");
        DUE.isText("large: line(9)", Tape.line(x, 9), " . . . . . ");
        DUE.isText("large: line(10)", Tape.line(x, 10), "    p   p  ");
        DUE.is("large: line(11)", x.line(11), -1);
    }

    // Promise 34
    private static void fewest() {
        WovenKeeper x = new WovenKeeper();
        DUE.is("fewest(0, 0)", x.fewest(0, 0), 0);
        DUE.is("fewest(0, 1)", x.fewest(0, 1), 3);
        Tape.work(x, "bit 1 1;weigh 1 1 9;");
        DUE.is("by number, not by weight", x.fewest(0, 0), 1);
        DUE.is("one of each border", x.fewest(0, 1), 2);
        int[][] none = {{2, 0}, {-1, 0}, {0, 2}, {0, -1}};
        for (int[] n : none) {
            DUE.is("fewest of none", x.fewest(n[0], n[1]), -1);
        }
        x.code(5);
        DUE.is("large: fewest(1, 1)", x.fewest(1, 1), 5);
    }

    // Promise 35
    private static void drawn() {
        WovenKeeper x = new WovenKeeper();
        DUE.is("drawn(8, 0, 1)", x.drawn(8, 0, 1), 0);
        DUE.is("drawn(8, 0, 1): now(1)", x.now(1), 8);
        DUE.is("drawn(1, 0, 1) behind eight", x.drawn(1, 0, 1), -1);
        x.code(3);
        x.drawn(3, 0, 1);
        DUE.is("drawn(6, 0, 1) behind three", x.drawn(6, 0, 1), -1);
        DUE.is("drawn(5, 0, 1) behind three", x.drawn(5, 0, 1), 0);
        x.code(3);
        int[][] none = {{0, 1}, {-1, 1}, {9, 1}, {1, -1}, {1, 22}, {HIGH, 1}, {LOW, 1}, {1, LOW}};
        for (int[] n : none) {
            DUE.is("drawn of none", x.drawn(n[0], n[1], 1), -1);
        }
        for (int seed = 1; seed <= 30; seed++) {
            oneDrawn(seed, 21);
            oneDrawn(-seed * 1000003, 7);
        }
        oneDrawn(0, 13);
        oneDrawn(LOW, 13);
        oneDrawn(HIGH, 13);
    }

    private static void oneDrawn(int seed, int e) {
        WovenKeeper x = after("miss bit 0;");
        int s = seed;
        int[] slips = new int[2];
        int came = 0;
        for (int q = 0; q < 9; q++) {
            s = s * 1103515245 + 12345;
            int draw = (s >>> 8) % 64;
            int band = draw / e;
            slips[0] |= band == 0 || band == 2 ? 1 << q : 0;
            slips[1] |= band == 1 || band == 2 ? 1 << q : 0;
            came += band == 2 ? 2 : band < 2 ? 1 : 0;
        }
        int[] marks = {1, 0};
        for (int n = 0; n < 8; n++) {
            s = s * 1103515245 + 12345;
            marks[n / 4] ^= (s >>> 8) % 64 < e ? 1 << n % 4 : 0;
        }
        DUE.is("drawn(1, " + e + ", " + seed + ")", x.drawn(1, e, seed), came);
        for (int kind = 0; kind < 2; kind++) {
            DUE.is("drawn slips of " + kind, x.now(3 + kind), slips[kind]);
            DUE.is("drawn reading of " + kind, x.reading(kind, 0), x.now(5 + kind) ^ marks[kind]);
            DUE.is("no marks behind a round", x.now(7 + kind), 0);
        }
        DUE.is("drawn is undone", x.undo(), 1);
        DUE.is("drawn is undone: now(1)", x.now(1), 0);
        DUE.is("drawn is undone: now(7)", x.now(7), 1);
    }

    // Promise 36
    private static void often() {
        WovenKeeper x = large("bit 2 2;round;miss phase 3;weigh 1 1 3;");
        x.image(0);
        for (int kind = 0; kind < 2; kind++) {
            for (int how = 0; how < 3; how++) {
                int ones = 0;
                for (int n = 0; n < 8; n++) {
                    x.drawn(2, 3, HIGH - 3 + n);
                    ones += x.result(kind, how) == 1 ? 1 : 0;
                    x.restore(0);
                }
                DUE.is("often by " + kind + " " + how, x.often(kind, how, 2, 3, HIGH - 3, 8), ones);
            }
        }
        DUE.is("all stays: now(1)", x.now(1), 1);
        DUE.is("all stays: now(3)", x.now(3), 1 << 12);
        DUE.is("all stays: now(8)", x.now(8), 8);
        DUE.is("nothing to undo", x.undo(), -1);
        DUE.is("more than fourteen count as 0", x.often(0, 0, 7, 21, 1, 8), 0);
        int[][] none = {{2, 0, 1, 1, 1}, {-1, 0, 1, 1, 1}, {0, 3, 1, 1, 1}, {0, -1, 1, 1, 1}, {0, 0, 0, 1, 1}, {0, 0, 8, 1, 1},
            {0, 0, 1, 22, 1}, {0, 0, 1, -1, 1}, {0, 0, 1, 1, 0}, {0, 0, 1, 1, 9}, {0, 0, HIGH, 1, 1}, {0, 0, 1, 1, LOW}};
        for (int[] n : none) {
            DUE.is("often of none", x.often(n[0], n[1], n[2], n[3], 1, n[4]), -1);
        }
    }

    // Promise 37
    private static void undo() {
        WovenKeeper x = new WovenKeeper();
        Tape.work(x, "bit 0 0;");
        for (int n = 0; n < 8; n++) {
            Tape.work(x, "bit 0 1;");
        }
        for (int n = 7; n >= 0; n--) {
            DUE.is("undo() of eight kept", x.undo(), n);
        }
        DUE.is("undo() of none left", x.undo(), -1);
        DUE.is("undo() of none leaves all", x.now(3), 1);
        x = after("weigh 0 0 5;late bit 1 6;miss bit 2;");
        Tape.work(x, "weigh 0 0 2;late bit 1 3;round;miss phase 1;both 1 1;");
        Tape.work(x, "bit 9 9;");
        x.undo();
        DUE.is("undone weight", x.qubit(0, 0), 5);
        DUE.is("undone lateness", x.check(0, 1, 3), 6);
        DUE.is("undone round", x.now(1), 0);
        DUE.is("undone marks", x.now(7) + 100 * x.now(8), 4);
        DUE.is("undone slips", x.now(3) + x.now(4), 0);
        DUE.is("undo leaves fault()", x.fault(), 2);
        DUE.is("undo() of the first", x.undo(), 0);
        DUE.is("undone weight of the first", x.qubit(0, 0), 1);
        x.work();
        DUE.is("a work() of 0 is undone too", x.undo(), 0);
        x.chain(5);
        x.press(0, 9);
        x.drawn(0, 0, 0);
        x.correct(3, 0);
        DUE.is("what was NONE is not undone", x.undo(), -1);
    }

    // Promises 38, 39
    private static void images() {
        WovenKeeper x = after("bit 1 1;weigh 0 0 5;late bit 1 6;miss bit 2;round;miss phase 0;");
        DUE.is("restore(0) of nothing", x.restore(0), false);
        DUE.is("image(0)", x.image(0), true);
        for (int k : new int[] {-1, 2, LOW, HIGH}) {
            DUE.is("image(" + k + ")", x.image(k), false);
            DUE.is("restore(" + k + ")", x.restore(k), false);
        }
        DUE.is("restore(1) of nothing", x.restore(1), false);
        DUE.is("image leaves undo", x.undo(), 0);
        x.code(5);
        x.chain(0);
        x.pair(0);
        x.line(2);
        x.image(1);
        x.feed(1, 2, 3, 4, 5);
        DUE.is("restore(0)", x.restore(0), true);
        DUE.is("restored size", x.now(0), 3);
        DUE.is("restored slips", x.now(3), 16);
        DUE.is("restored rounds", x.now(1), 1);
        DUE.is("restored reading", x.reading(0, 0), 13);
        DUE.is("restored marks", x.now(8), 1);
        DUE.is("restored weight", x.qubit(0, 0), 5);
        DUE.is("restored lateness", x.check(0, 1, 3), 6);
        DUE.is("the tape stays", x.now(9), 20);
        DUE.is("the latest line stays", x.byteAt(10), 'b');
        DUE.is("nothing can be undone", x.undo(), -1);
        x.chain(1);
        DUE.is("an image stays as it is", x.restore(0), true);
        DUE.is("an image stays as it is: now(4)", x.now(4), 0);
        DUE.is("restore(1)", x.restore(1), true);
        DUE.is("restored size of the other", x.now(0), 5);
        DUE.is("restored slips of the other", x.now(3), 0x108421);
        x.code(3);
        DUE.is("image(1) over another", x.image(1), true);
        x.code(5);
        x.restore(1);
        DUE.is("the later image", x.now(0), 3);
    }
}
