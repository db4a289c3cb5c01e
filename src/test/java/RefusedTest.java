import java.util.ArrayList;
import java.util.List;

/**
 * A call that is refused leaves all as it was, and so does one that only asks: of two keepers that were
 * used alike one is asked besides, and then both must tell the same, whatever is looked at.
 */
public final class RefusedTest {
    private static final Due DUE = new Due("RefusedTest");
    private static final int LOW = Integer.MIN_VALUE;
    private static final int HIGH = Integer.MAX_VALUE;
    private static final int LOOKS = 7;
    /** A look at what is told last; grow(), pair(), line() that are not refused change it. */
    private static final int AT_WHAT_WAS_TOLD = 1;

    private interface Making {
        WovenKeeper make();
    }

    public static void main(String[] args) {
        Making[] makings = {WovenKeeper::new, RefusedTest::used, RefusedTest::crowded, RefusedTest::small};
        for (Making making : makings) {
            for (Call call : refusedAnywhere()) {
                leavesAll(making, call, true);
            }
            for (Call call : asking()) {
                leavesAll(making, call, false);
            }
        }
        refusedHere();
        toldAnew();
        faults();
        DUE.close();
    }

    /** Size 5: five rounds, a full tape, both images, all that can be kept for undo, all that can be told. */
    private static WovenKeeper used() {
        WovenKeeper x = new WovenKeeper();
        Tape.work(x, "bit 2 2;weigh 2 2 3;round;");
        x.image(0);
        x.code(5);
        Tape.work(x, "phase 4 0;late phase 11 6;");
        x.image(1);
        Tape.work(x, "both 1 1;weigh 0 1 4;late bit 3 2;round;miss bit 2;round;bit 3 3;");
        Tape.work(x, "bit 7 7;");
        x.press(0, 4);
        x.chain(1);
        x.drawn(3, 1, 99);
        x.correct(1, 1);
        for (int n = 0; n < 4; n++) {
            Tape.work(x, "miss phase " + n + ";bit " + n + " 2;");
        }
        x.pair(0);
        x.grow(1);
        x.line(5);
        Tape.work(x, "again 0[];");
        Tape.put(x, "bit 0 3;late bit 0 9;round;" + " ".repeat(173));
        x.feed(0x41414141, 0x42424242, 0x43434343, 0x44444444, 0x45454545);
        x.feed(0x41414141, 0x42424242, 0x43434343, 0x44444444, 0x45454545);
        return x;
    }

    /** Size 5: eight rounds and more events than can be paired. */
    private static WovenKeeper crowded() {
        WovenKeeper x = new WovenKeeper();
        x.code(5);
        Tape.work(x, "both 0 0;");
        x.pair(0);
        x.grow(0);
        x.line(1);
        x.image(0);
        Tape.work(x, "again 8[both 0 0;both 2 2;both 4 4;round;];both 0 0;miss bit 1;");
        return x;
    }

    /** Size 3, a short tape, one image. */
    private static WovenKeeper small() {
        WovenKeeper x = new WovenKeeper();
        Tape.work(x, "both 1 1;miss bit 3;round;miss phase 2;weigh 1 1 2;");
        x.chain(0);
        x.image(1);
        x.press(1, 2);
        Tape.put(x, "phase 0 2;round");
        return x;
    }

    private static void leavesAll(Making making, Call call, boolean refused) {
        for (int look = 0; look < LOOKS; look++) {
            WovenKeeper x = making.make();
            WovenKeeper y = making.make();
            long answer = call.on(y);
            if (refused) {
                DUE.is(call.toString(), answer, call.refusal());
            }
            DUE.isText("behind " + call + ", look " + look, seen(y, look), seen(x, look));
        }
    }

    /** No look takes more than 400 calls: all that may be made of one object is 512. */
    private static String seen(WovenKeeper x, int look) {
        StringBuilder seen = new StringBuilder();
        switch (look) {
            case 0 -> standing(x, seen);
            case AT_WHAT_WAS_TOLD -> told(x, seen);
            case 2 -> {
                for (int n = 0; n < 9; n++) {
                    seen.append(" undo ").append(x.undo());
                    standingInShort(x, seen);
                }
            }
            case 3, 4 -> {
                seen.append(" restored ").append(x.restore(look - 3));
                standing(x, seen);
                told(x, seen);
            }
            case 5 -> answers(x, seen);
            default -> {
                seen.append(" the tape ").append(x.end(Math.min(200, x.now(9)))).append(' ').append(x.now(9));
                seen.append(" worked ").append(x.work()).append(' ').append(x.fault());
                standing(x, seen);
            }
        }
        return seen.toString();
    }

    private static void standingInShort(WovenKeeper x, StringBuilder seen) {
        for (int what = 0; what < 10; what++) {
            seen.append(' ').append(x.now(what));
        }
        for (int n = 0; n < 4; n++) {
            seen.append(' ').append(x.qubit(n, 0)).append(' ').append(x.check(n % 2, n, 3));
        }
    }

    private static void standing(WovenKeeper x, StringBuilder seen) {
        for (int what = 0; what < 10; what++) {
            seen.append(' ').append(x.now(what));
        }
        int d = x.now(0);
        for (int q = 0; q < d * d; q++) {
            seen.append(' ').append(x.qubit(q, 0));
        }
        for (int k = 0; k < x.now(2); k++) {
            seen.append(' ').append(x.check(0, k, 3)).append(' ').append(x.check(1, k, 3));
        }
        for (int round = 0; round < 8; round++) {
            seen.append(' ').append(x.reading(0, round)).append(' ').append(x.reading(1, round));
        }
        seen.append(" fault ").append(x.fault());
    }

    private static void told(WovenKeeper x, StringBuilder seen) {
        toldOfEvents(x, seen);
        for (int i = 0; i < 12; i++) {
            seen.append(' ').append(x.byteAt(i));
        }
    }

    private static void toldOfEvents(WovenKeeper x, StringBuilder seen) {
        for (int i = 0; i < 15; i++) {
            seen.append(' ').append(x.partner(i));
        }
        for (int what = 0; what < 4; what++) {
            seen.append(' ').append(x.grown(what));
        }
        for (int k = 0; k < 80; k++) {
            seen.append(' ').append(x.peeledAt(k));
        }
    }

    private static void answers(WovenKeeper x, StringBuilder seen) {
        for (int kind = 0; kind < 2; kind++) {
            seen.append(" events ").append(x.events(kind));
            for (int j = -1; j < 3; j++) {
                seen.append(' ').append(x.far(kind, 1, j)).append(' ').append(x.far(kind, 4, j));
                for (int k = 0; k < 6; k++) {
                    seen.append(' ').append(x.way(kind, 1, j, k));
                }
            }
            for (int how = 0; how < 3; how++) {
                seen.append(' ').append(x.correction(kind, how)).append(' ').append(x.result(kind, how));
                seen.append(' ').append(x.often(kind, how, 1, 3, 77, 8));
            }
            for (int round = 0; round < 8; round++) {
                seen.append(' ').append(x.blame(kind, 0, round)).append(' ').append(x.blame(kind, 1, round));
            }
            seen.append(' ').append(x.pairings(kind)).append(' ').append(x.distance(kind)).append(' ').append(x.fewest(kind, 1));
            seen.append(' ').append(x.like(kind, 0, 5)).append(' ').append(x.odds(kind, 1, 2, 3));
            seen.append(' ').append(x.pair(kind)).append(' ').append(x.grow(kind));
            toldOfEvents(x, seen);
        }
    }

    private static void add(List<Call> calls, String name, int[]... rows) {
        for (int[] row : rows) {
            calls.add(new Call(name, row));
        }
    }

    /** Refused whatever there is. */
    private static List<Call> refusedAnywhere() {
        List<Call> calls = new ArrayList<>();
        add(calls, "end", new int[][] {{-1}, {241}, {LOW}, {HIGH}});
        add(calls, "code", new int[][] {{4}, {2}, {6}, {0}, {-3}, {LOW}, {HIGH}});
        add(calls, "now", new int[][] {{-1}, {10}});
        add(calls, "check", new int[][] {{2, 0, 0}, {-1, 0, 0}, {0, 12, 0}, {0, -1, 0}, {0, 0, 4}, {0, 0, -1}});
        add(calls, "qubit", new int[][] {{25, 0}, {-1, 0}, {0, 3}, {0, -1}});
        add(calls, "reading", new int[][] {{0, 8}, {0, -1}, {2, 0}, {-1, 0}});
        add(calls, "events", new int[][] {{2}, {-1}});
        add(calls, "event", new int[][] {{0, 108, 0}, {0, -1, 0}, {0, 0, 2}, {0, 0, -1}, {2, 0, 0}, {-1, 0, 0}});
        add(calls, "far", new int[][] {{0, 108, -1}, {0, -1, -1}, {0, 0, 0}, {0, 0, -2}, {0, 0, 108}, {2, 0, -1}, {-1, 0, 1}});
        add(calls, "way", new int[][] {{0, 108, -1, 0}, {0, 0, 0, 0}, {0, 0, -1, -1}, {0, 0, -1, HIGH}, {2, 0, -1, 0}});
        add(calls, "pair", new int[][] {{2}, {-1}});
        add(calls, "partner", new int[][] {{-1}, {14}});
        add(calls, "pairings", new int[][] {{2}, {-1}});
        add(calls, "grow", new int[][] {{2}, {-1}});
        add(calls, "grown", new int[][] {{-1}, {4}});
        add(calls, "peeledAt", new int[][] {{-1}, {321}});
        add(calls, "blame", new int[][] {{2, 0, 0}, {-1, 1, 0}, {0, 2, 0}, {0, -1, 0}, {0, 0, 8}, {0, 1, -1}});
        add(calls, "edges", new int[][] {{2}, {-1}});
        add(calls, "edge", new int[][] {{2, 0, 0}, {-1, 0, 0}, {0, 321, 0}, {0, -1, 0}, {0, 0, 3}, {0, 0, -1}});
        add(calls, "correction", new int[][] {{2, 0}, {-1, 1}, {0, 3}, {0, -1}});
        add(calls, "result", new int[][] {{2, 0}, {-1, 1}, {0, 3}, {0, -1}});
        add(calls, "correct", new int[][] {{2, 0}, {-1, 1}, {2, 2}, {0, 3}, {0, -1}, {1, LOW}, {HIGH, 0}});
        add(calls, "distance", new int[][] {{2}, {-1}});
        add(calls, "like", new int[][] {{2, 0, 0}, {0, 2, 0}, {0, -1, 0}, {0, 0, 26}, {0, 0, -1}});
        add(calls, "odds", new int[][] {{2, 0, 1, 1}, {0, 2, 1, 1}, {0, 0, 100, 1}, {0, 0, 1, 100}, {0, 0, -1, 1}, {0, 0, 1, -1}});
        add(calls, "press", new int[][] {{2, 0}, {-1, 0}, {0, 12}, {1, -1}, {LOW, HIGH}});
        add(calls, "chain", new int[][] {{2}, {-1}, {LOW}, {HIGH}});
        add(calls, "line", new int[][] {{-1}, {11}, {LOW}, {HIGH}});
        add(calls, "byteAt", new int[][] {{-1}, {11}});
        add(calls, "fewest", new int[][] {{2, 0}, {0, 2}, {0, -1}});
        add(calls, "drawn", new int[][] {{0, 1, 1}, {-1, 1, 1}, {9, 1, 1}, {1, -1, 1}, {1, 22, 1}, {HIGH, 1, 1}, {LOW, 1, 1}});
        add(calls, "often", new int[][] {{2, 0, 1, 1, 1, 1}, {0, 3, 1, 1, 1, 1}, {0, -1, 1, 1, 1, 1}, {0, 0, 0, 1, 1, 1},
            {0, 0, 9, 1, 1, 1}, {0, 0, 1, 22, 1, 1}, {0, 0, 1, -1, 1, 1}, {0, 0, 1, 1, 1, 0}, {0, 0, 1, 1, 1, 9}});
        add(calls, "image", new int[][] {{-1}, {2}, {LOW}, {HIGH}});
        add(calls, "restore", new int[][] {{-1}, {2}, {LOW}, {HIGH}});
        return calls;
    }

    /** Refused or not: these only ask. */
    private static List<Call> asking() {
        List<Call> calls = new ArrayList<>();
        add(calls, "fault", new int[][] {{}});
        add(calls, "now", new int[][] {{3}, {9}});
        add(calls, "check", new int[][] {{0, 3, 2}});
        add(calls, "qubit", new int[][] {{8, 1}});
        add(calls, "reading", new int[][] {{0, 0}});
        add(calls, "events", new int[][] {{0}, {1}});
        add(calls, "event", new int[][] {{0, 0, 0}, {1, 1, 1}});
        add(calls, "far", new int[][] {{0, 0, 1}, {1, 0, -1}});
        add(calls, "way", new int[][] {{0, 0, 1, 0}, {1, 0, -1, 1}});
        add(calls, "partner", new int[][] {{0}});
        add(calls, "pairings", new int[][] {{0}, {1}});
        add(calls, "grown", new int[][] {{1}});
        add(calls, "peeledAt", new int[][] {{0}});
        add(calls, "blame", new int[][] {{0, 0, 0}, {1, 1, 0}});
        add(calls, "edges", new int[][] {{0}, {1}});
        add(calls, "edge", new int[][] {{0, 8, 0}, {1, 3, 1}});
        add(calls, "correction", new int[][] {{0, 0}, {0, 1}, {0, 2}, {1, 0}, {1, 1}, {1, 2}});
        add(calls, "result", new int[][] {{0, 0}, {0, 1}, {0, 2}, {1, 0}, {1, 1}, {1, 2}});
        add(calls, "distance", new int[][] {{0}, {1}});
        add(calls, "like", new int[][] {{0, 0, 2}, {1, 1, 9}});
        add(calls, "odds", new int[][] {{0, 1, 2, 3}, {1, 0, 99, 99}});
        add(calls, "byteAt", new int[][] {{1}});
        add(calls, "fewest", new int[][] {{0, 1}, {1, 0}});
        add(calls, "often", new int[][] {{0, 0, 1, 2, 7, 8}, {0, 1, 2, 21, HIGH, 8}, {1, 2, 3, 5, LOW, 8}, {1, 0, 8, 1, 3, 8}});
        return calls;
    }

    /** Refused by what there is. */
    private static void refusedHere() {
        Making fresh = WovenKeeper::new;
        leavesAll(fresh, new Call("end", 1), true);
        leavesAll(fresh, new Call("undo"), true);
        leavesAll(fresh, new Call("restore", 0), true);
        leavesAll(fresh, new Call("restore", 1), true);
        leavesAll(fresh, new Call("partner", 0), true);
        leavesAll(fresh, new Call("grown", 0), true);
        leavesAll(fresh, new Call("peeledAt", 0), true);
        leavesAll(fresh, new Call("byteAt", 0), true);
        leavesAll(fresh, new Call("line", 7), true);
        leavesAll(fresh, new Call("press", 0, 4), true);
        Making used = RefusedTest::used;
        leavesAll(used, new Call("feed", -1, -1, -1, -1, -1), true);
        leavesAll(used, new Call("drawn", 4, 1, 1), true);
        leavesAll(used, new Call("often", 0, 0, 4, 1, 1, 1), true);
        Making crowded = RefusedTest::crowded;
        leavesAll(crowded, new Call("pair", 0), true);
        leavesAll(crowded, new Call("pairings", 1), true);
        leavesAll(crowded, new Call("correction", 0, 0), true);
        leavesAll(crowded, new Call("result", 0, 0), true);
        leavesAll(crowded, new Call("correct", 0, 0), true);
        leavesAll(crowded, new Call("correct", 1, 0), true);
        leavesAll(crowded, new Call("blame", 0, 0, 0), true);
        leavesAll(crowded, new Call("drawn", 1, 0, 0), true);
        leavesAll(crowded, new Call("often", 0, 2, 1, 0, 0, 1), true);
        leavesAll(crowded, new Call("restore", 1), true);
        Making small = RefusedTest::small;
        leavesAll(small, new Call("line", 7), true);
        leavesAll(small, new Call("press", 1, 4), true);
        leavesAll(small, new Call("end", 16), true);
        leavesAll(small, new Call("restore", 0), true);
        leavesAll(small, new Call("drawn", 8, 1, 1), true);
    }

    /** pair(), grow(), line() that are not refused, and image(), change what they tell or keep alone. */
    private static void toldAnew() {
        Call[] calls = {new Call("pair", 0), new Call("pair", 1), new Call("grow", 0), new Call("grow", 1), new Call("line", 0), new Call("line", 3)};
        for (Making making : new Making[] {WovenKeeper::new, RefusedTest::used, RefusedTest::crowded, RefusedTest::small}) {
            for (Call call : calls) {
                for (int look : new int[] {0, 2, 5, 6}) {
                    WovenKeeper x = making.make();
                    WovenKeeper y = making.make();
                    call.on(y);
                    DUE.isText("behind " + call + ", look " + look, seen(y, look), seen(x, look));
                }
            }
            for (int look : new int[] {0, AT_WHAT_WAS_TOLD, 2, 4, 5, 6}) {
                WovenKeeper x = making.make();
                WovenKeeper y = making.make();
                y.image(0);
                DUE.isText("behind image(0), look " + look, seen(y, look), seen(x, look));
            }
        }
    }

    /** A work() with a FAULT empties the tape and tells its kind; all else stays. */
    private static void faults() {
        String[] texts = {"bit 0 0;x", "both 0 0;round;bit 9 0;", "miss bit 0;".repeat(2) + "round;".repeat(29), "round;again 1[again 1[again 1[];];];", "round;" + " ".repeat(195)};
        int[] places = {8, 19, 22 + 28 * 6, 22, 200};
        int[] kinds = {1, 2, 3, 4, 1};
        for (Making making : new Making[] {WovenKeeper::new, RefusedTest::used, RefusedTest::crowded, RefusedTest::small}) {
            for (int n = 0; n < texts.length; n++) {
                for (int look = 0; look < LOOKS; look++) {
                    WovenKeeper x = making.make();
                    WovenKeeper y = making.make();
                    // of x only the tape and the kind of the latest fault are brought to the same
                    DUE.is("a fault of the same kind", Tape.work(x, "#") == -1000, true);
                    Tape.work(x, new String[] {"", "#", "bit 9", "round;".repeat(31), "again 1[again 1[again"}[kinds[n]]);
                    DUE.is("work() of " + texts[n], Tape.work(y, texts[n]), -1000 - places[n]);
                    DUE.is("fault() of " + texts[n], y.fault(), kinds[n]);
                    DUE.isText("behind " + texts[n] + ", look " + look, seen(y, look), seen(x, look));
                }
            }
        }
    }
}
