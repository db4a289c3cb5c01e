import java.io.IOException;

/** WORK: each sentence that names a bound of its text, its numbers, its faults and its doing. */
public final class WorkBoundsTest {
    private static final Due DUE = new Due("WorkBoundsTest");
    private static final String[] WORDS = {"bit", "phase", "both", "miss", "round", "weigh", "late", "again"};
    private static Document doc;

    public static void main(String[] args) throws IOException {
        doc = new Document(DUE);
        bytes();
        steps();
        slipSteps();
        checkSteps();
        weighSteps();
        kinds();
        agains();
        words();
        numbers();
        blanks();
        firstFault();
        firstByte();
        theEnd();
        tooLong();
        numbersThatCantBe();
        theThirtyFirst();
        tooDeep();
        roundsBehindTheEighth();
        hundredBegun();
        DUE.close();
    }

    private static void done(int size, String text, int due) {
        WovenKeeper x = new WovenKeeper();
        x.code(size);
        DUE.is("work() of '" + text + "'", Tape.work(x, text), due);
        DUE.is("fault() of '" + text + "'", x.fault(), 0);
        DUE.is("the tape behind '" + text + "'", x.now(9), 0);
    }

    private static void faulty(int size, String text, int kind, int place) {
        WovenKeeper x = new WovenKeeper();
        x.code(size);
        DUE.is("work() of '" + text + "'", Tape.work(x, text), -1000 - place);
        DUE.is("fault() of '" + text + "'", x.fault(), kind);
        DUE.is("the tape behind '" + text + "'", x.now(9), 0);
        DUE.is("rounds behind '" + text + "'", x.now(1), 0);
        DUE.is("slips behind '" + text + "'", x.now(3) | x.now(4), 0);
        DUE.is("marks behind '" + text + "'", x.now(7) | x.now(8), 0);
        DUE.is("undo() behind '" + text + "'", x.undo(), -1);
    }

    private static void bytes() {
        doc.term("WORK is a text of at most 200 bytes: { STEP ; }, 30 at most.");
        done(3, "", 0);
        done(3, " ", 0);
        done(3, " ".repeat(200), 0);
        faulty(3, " ".repeat(201), 1, 200);
        done(3, " ".repeat(192) + "bit 1 1;", 1);
        done(3, "bit 1 1;" + " ".repeat(192), 1);
        done(3, "bit 1 1;".repeat(25), 25);
        faulty(3, "bit 1 1;".repeat(25) + " ", 1, 200);
        faulty(3, "bit 1 1", 1, 7);
        faulty(3, ";", 1, 0);
        faulty(3, "bit 1 1;;", 1, 8);
    }

    private static void steps() {
        doc.term("{ STEP ; }, 30 at most.");
        done(3, "round;".repeat(29), 8);
        done(3, "round;".repeat(30), 8);
        faulty(3, "round;".repeat(31), 3, 180);
        done(3, "bit0 0;".repeat(28) + "    ", 28);
        done(3, "again 1[" + "round;".repeat(29) + "];", 8);
        faulty(3, "again 1[" + "round;".repeat(30) + "];", 3, 8 + 29 * 6);
        done(3, "again1[];".repeat(22), 0);
    }

    private static void slipSteps() {
        doc.term("'bit' R C | 'phase' R C | 'both' R C (a SLIP of KIND 0, 1, of both, on the QUBIT in row R, column C)");
        for (int d : new int[] {3, 5}) {
            for (int kind = 0; kind < 3; kind++) {
                String word = WORDS[kind] + " ";
                int at = word.length();
                for (int n = 0; n < d; n++) {
                    slip(d, kind, 0, n);
                    slip(d, kind, n, 0);
                    slip(d, kind, d - 1, n);
                }
                faulty(d, word + d + " 0;", 2, at);
                faulty(d, word + "0 " + d + ";", 2, at + 2);
                faulty(d, word + ";", 1, at);
                faulty(d, word + "0;", 1, at + 1);
                faulty(d, word + "0 0 0;", 1, at + 4);
            }
        }
    }

    private static void slip(int d, int kind, int row, int column) {
        WovenKeeper x = new WovenKeeper();
        x.code(d);
        String text = WORDS[kind] + " " + row + " " + column + ";";
        DUE.is("work() of " + text, Tape.work(x, text), 1);
        DUE.is(text + " bits", x.now(3), kind == 1 ? 0 : 1 << row * d + column);
        DUE.is(text + " phases", x.now(4), kind == 0 ? 0 : 1 << row * d + column);
    }

    private static void checkSteps() {
        doc.term("'miss' KIND k (CHECK k of it is MARKED, or not any more)");
        for (int d : new int[] {3, 5}) {
            int checks = (d * d - 1) / 2;
            for (int kind = 0; kind < 2; kind++) {
                String word = "miss " + WORDS[kind] + " ";
                for (int k = 0; k < checks; k++) {
                    WovenKeeper x = new WovenKeeper();
                    x.code(d);
                    DUE.is("work() of " + word + k, Tape.work(x, word + k + ";"), 1);
                    DUE.is(word + k, x.now(7 + kind), 1 << k);
                    DUE.is(word + k + ": the other kind", x.now(8 - kind), 0);
                }
                faulty(d, word + checks + ";", 2, word.length());
                faulty(d, word + ";", 1, word.length());
                faulty(d, word + "0 1;", 1, word.length() + 2);
            }
        }
        doc.term("'late' KIND k N (its LATENESS)");
        for (int d : new int[] {3, 5}) {
            int last = (d * d - 1) / 2 - 1;
            done(d, "late bit 0 1;", 1);
            done(d, "late bit " + last + " 9;", 1);
            done(d, "late phase " + last + " 9;", 1);
            faulty(d, "late phase " + (last + 1) + " 9;", 2, 11);
            faulty(d, "late phase 0 0;", 2, 13);
            faulty(d, "late phase 0 10;", 2, 13);
            faulty(d, "late phase 0;", 1, 12);
        }
    }

    private static void weighSteps() {
        doc.term("'weigh' R C N (its WEIGHT)");
        for (int d : new int[] {3, 5}) {
            int last = d - 1;
            done(d, "weigh 0 0 1;", 1);
            done(d, "weigh " + last + " " + last + " 9;", 1);
            faulty(d, "weigh " + d + " 0 1;", 2, 6);
            faulty(d, "weigh 0 " + d + " 1;", 2, 8);
            faulty(d, "weigh 0 0 0;", 2, 10);
            faulty(d, "weigh 0 0 10;", 2, 10);
            faulty(d, "weigh 0 0;", 1, 9);
        }
    }

    private static void kinds() {
        doc.term("KIND: 'bit' or 'phase'.");
        done(3, "miss bit 0;miss phase 0;late bit 0 2;late phase 0 2;", 4);
        for (String word : new String[] {"both", "round", "miss", "bits", "bi", "phas", "kind", "b"}) {
            faulty(3, "miss " + word + " 0;", 1, 5);
            faulty(3, "late " + word + " 0 1;", 1, 5);
        }
        faulty(3, "miss 0 0;", 1, 5);
        faulty(3, "miss ;", 1, 5);
        faulty(3, "miss", 1, 4);
    }

    private static void agains() {
        doc.term("'again' N [ { STEP ; } ] (what stands in the brackets is done so often).");
        for (int n = 1; n <= 9; n++) {
            WovenKeeper x = new WovenKeeper();
            DUE.is("again " + n, Tape.work(x, "again " + n + "[bit 0 0;];"), n);
            DUE.is("again " + n + ": now(3)", x.now(3), n % 2);
        }
        faulty(3, "again 0[bit 0 0;];", 2, 6);
        faulty(3, "again 10[bit 0 0;];", 2, 6);
        done(3, "again 9[];", 0);
        done(3, "again 9[ ];", 0);
        faulty(3, "again 9[;];", 1, 8);
        faulty(3, "again 9[]", 1, 9);
        faulty(3, "again 9[]]", 1, 9);
        faulty(3, "again 9];", 1, 7);
        faulty(3, "again 9[[];", 1, 8);
        faulty(3, "again 9;", 1, 7);
        faulty(3, "again [];", 1, 6);
        faulty(3, "again 9[bit 0 0];", 1, 15);
        faulty(3, "again 9[bit 0 0;;];", 1, 16);
        faulty(3, "again 9[", 1, 8);
    }

    private static void words() {
        doc.term("Words: small letters");
        String[] tails = {" 0 0;", " 0 0;", " 0 0;", " bit 0;", ";", " 0 0 1;", " bit 0 1;", " 1[];"};
        for (int n = 0; n < WORDS.length; n++) {
            String word = WORDS[n];
            done(3, word + tails[n], n == 7 ? 0 : 1);
            faulty(3, word.toUpperCase() + tails[n], 1, 0);
            faulty(3, word.substring(0, word.length() - 1) + tails[n], 1, 0);
            faulty(3, word + "s" + tails[n], 1, 0);
            faulty(3, word + "a" + tails[n], 1, 0);
            faulty(3, word + "z" + tails[n], 1, 0);
            faulty(3, "a" + word + tails[n], 1, 0);
            faulty(3, "z" + word + tails[n], 1, 0);
            for (int at = 0; at < word.length(); at++) {
                faulty(3, word.substring(0, at) + "z" + word.substring(at + 1) + tails[n], 1, 0);
            }
            faulty(3, word.substring(0, 1) + " " + word.substring(1) + tails[n], 1, 0);
            // the signs just ahead of and behind the small letters, and one beyond 127
            faulty(3, word + '`' + tails[n], 1, word.length());
            faulty(3, word + '{' + tails[n], 1, word.length());
            faulty(3, word + (char) 225 + tails[n], 1, word.length());
        }
    }

    private static void numbers() {
        doc.term("numbers: digits (as many as stand there)");
        done(3, "bit 2 2;", 1);
        done(3, "bit 02 002;", 1);
        done(3, "bit 0 " + "0".repeat(192) + "2;", 1);
        done(3, "bit " + "0".repeat(193) + " 0;", 1);
        faulty(3, "bit 0 " + "0".repeat(192) + "3;", 2, 6);
        faulty(3, "bit 0 " + "9".repeat(193) + ";", 2, 6);
        // what a row, an int, a long would wrap around into something that can be
        String[] wrap = {"256", "257", "65536", "65537", "4294967295", "4294967296", "4294967297", "8589934593",
            "18446744073709551615", "18446744073709551616", "18446744073709551617", "36893488147419103233"};
        for (String n : wrap) {
            faulty(3, "bit " + n + " 0;", 2, 4);
            faulty(3, "weigh 0 0 " + n + ";", 2, 10);
            faulty(3, "again " + n + "[];", 2, 6);
            faulty(5, "miss bit " + n + ";", 2, 9);
        }
        // the signs just ahead of and behind the digits
        faulty(3, "bit 0/ 0;", 1, 5);
        faulty(3, "bit 0: 0;", 1, 5);
        faulty(3, "bit /0 0;", 1, 4);
        faulty(3, "bit :0 0;", 1, 4);
        faulty(3, "bit -0 0;", 1, 4);
        faulty(3, "bit +1 0;", 1, 4);
        faulty(3, "bit 1.0 0;", 1, 5);
        faulty(3, "bit 00;", 1, 6);
    }

    private static void blanks() {
        doc.term("blanks (32) may stand between all.");
        done(3, "bit0 0;miss bit0;late phase3 9;weigh0 0 1;again2[round;];", 6);
        done(3, "   bit   0   0   ;   miss   bit   0   ;   again   2   [   round   ;   ]   ;   ", 4);
        faulty(3, "missbit 0;", 1, 0);
        faulty(3, "bi t 0 0;", 1, 0);
        faulty(3, "weigh 0 01;", 1, 10);
        int[] none = {0, 9, 10, 11, 13, 31, 33, 95, 127, 128, 160, 255};
        for (int sign : none) {
            String c = String.valueOf((char) sign);
            faulty(3, c, 1, 0);
            faulty(3, "bit" + c + "0 0;", 1, 3);
            faulty(3, "bit 0" + c + "0;", 1, 5);
            faulty(3, "bit 0 0" + c + ";", 1, 7);
            faulty(3, "bit 0 0;" + c, 1, 8);
            faulty(3, "again 1[" + c + "];", 1, 8);
        }
    }

    private static void firstFault() {
        doc.term("FAULTS, the first along the text");
        faulty(3, "bit 3 x;", 2, 4);
        faulty(3, "bit x 3;", 1, 4);
        faulty(3, "bit 3 3;", 2, 4);
        faulty(3, "bit 0 3;zzz;", 2, 6);
        faulty(3, "zzz;bit 0 3;", 1, 0);
        faulty(3, "bit 0 9" + "round;".repeat(31), 2, 6);
        faulty(3, "again 1[again 1[again 1[", 4, 16);
        faulty(3, "again 1[again 0[again 1[", 2, 14);
        faulty(3, "again 1[again 1 again 1[", 1, 16);
        // what is right ahead of a fault is not done
        faulty(3, "both 0 0;miss bit 0;round;weigh 0 0 9;x", 1, 38);
    }

    private static void firstByte() {
        doc.term("1 what can't stand there (at its first byte;");
        faulty(3, "x", 1, 0);
        faulty(3, "   xyz", 1, 3);
        faulty(3, "bit 1 1 xyz;", 1, 8);
        faulty(3, "bit 1 1 123;", 1, 8);
        faulty(3, "bit 1 round;", 1, 6);
        faulty(3, "bit;", 1, 3);
        faulty(3, "round round;", 1, 6);
        faulty(3, "5;", 1, 0);
        faulty(3, "]", 1, 0);
        faulty(3, "[", 1, 0);
        faulty(3, "again 1[];]", 1, 10);
        faulty(3, " ".repeat(199) + "x", 1, 199);
    }

    private static void theEnd() {
        doc.term("the end: how many bytes there are;");
        String text = "bit 1 1;";
        int[] place = {-1, 0, 0, 3, 4, 5, 6, 7, -1};
        for (int n = 0; n <= text.length(); n++) {
            if (place[n] < 0) {
                done(3, text.substring(0, n), n / 8);
            } else {
                faulty(3, text.substring(0, n), 1, place[n]);
            }
        }
        faulty(3, "bit 1 1     ", 1, 12);
        faulty(3, "again 2[round;", 1, 14);
        faulty(3, "again 2[round;]", 1, 15);
        faulty(3, "again 2[round;]  ", 1, 17);
        faulty(3, " ".repeat(197) + "bit", 1, 200);
        faulty(3, "round" + " ".repeat(195), 1, 200);
    }

    private static void tooLong() {
        doc.term("more than 200: 200, nothing is read)");
        done(3, " ".repeat(200), 0);
        faulty(3, " ".repeat(201), 1, 200);
        faulty(3, "x".repeat(200), 1, 0);
        faulty(3, "x".repeat(201), 1, 200);
        faulty(3, "bit 9 9;" + " ".repeat(192), 2, 4);
        faulty(3, "bit 9 9;" + " ".repeat(193), 1, 200);
        faulty(3, "round;".repeat(31) + " ".repeat(14), 3, 180);
        faulty(3, "round;".repeat(31) + " ".repeat(15), 1, 200);
        faulty(3, " ".repeat(240), 1, 200);
    }

    private static void numbersThatCantBe() {
        doc.term("2 a number that can't be (0 to d less 1, K less 1; N 1 to 9; at its first byte)");
        faulty(3, "bit    003 0;", 2, 7);
        faulty(3, "bit 0    13;", 2, 9);
        faulty(3, "weigh 2 2 00;", 2, 10);
        faulty(3, "miss phase 4;", 2, 11);
        faulty(5, "miss phase 12;", 2, 11);
        faulty(3, "miss phase 11;", 2, 11);
        done(5, "miss phase 11;", 1);
        faulty(3, "bit 4 4;", 2, 4);
        done(5, "bit 4 4;", 1);
    }

    private static void theThirtyFirst() {
        doc.term("3 a 31st STEP (all that stand there, wherever; at its word, if it is one)");
        String thirty = "round;".repeat(30);
        done(3, thirty, 8);
        done(3, thirty + "   ", 8);
        for (String word : WORDS) {
            faulty(3, thirty + word, 3, 180);
            faulty(3, thirty + "  " + word + " ", 3, 182);
        }
        // its word is what counts, not what comes behind it
        faulty(3, thirty + "bit 9", 3, 180);
        faulty(3, thirty + "round#", 3, 180);
        // what is no word can't stand there
        faulty(3, thirty + "rounds", 1, 180);
        faulty(3, thirty + "5", 1, 180);
        faulty(3, thirty + "]", 1, 180);
        faulty(3, thirty + " ;", 1, 181);
        // wherever: behind, within, as the brackets' own word, done often or not
        faulty(3, "again 9[" + "round;".repeat(28) + "];round;round;", 3, 8 + 28 * 6 + 2 + 6);
        done(3, "again 9[" + "round;".repeat(28) + "];round;", 8);
        faulty(3, "round;".repeat(28) + "again 1[round;round;];", 3, 182);
        done(3, "round;".repeat(28) + "again 1[round;];", 8);
        done(3, "round;".repeat(29) + "again 1[];", 8);
        faulty(3, "round;".repeat(29) + "again 1[round;];", 3, 182);
        faulty(3, "round;".repeat(29) + "again 1[];bit", 3, 184);
    }

    private static void tooDeep() {
        doc.term("4 an again within two others (at its word; 3 ahead of it).");
        done(3, "again 2[again 3[bit 0 0;];];", 6);
        faulty(3, "again 1[again 1[again 1[];];];", 4, 16);
        faulty(3, "again 1[again 1[   again", 4, 19);
        faulty(3, "again 1[again 1[agains", 1, 16);
        done(3, "again 1[again 1[];again 1[];];again 1[again 1[];];", 0);
        faulty(3, "again 1[again 1[];again 1[again 1[];];];", 4, 26);
        faulty(3, "again 1[again 1[round;again 0[", 4, 22);
        // the 30th is too deep, the 31st too many
        String two = "again 1[again 1[";
        faulty(3, two + "round;".repeat(27) + "again 1[];];];", 4, 16 + 27 * 6);
        faulty(3, two + "round;".repeat(28) + "again 1[];];];", 3, 16 + 28 * 6);
    }

    private static void roundsBehindTheEighth() {
        doc.term("A 'round' behind the 8th is not done;");
        WovenKeeper x = new WovenKeeper();
        DUE.is("seven rounds", Tape.work(x, "again 7[round;];"), 7);
        DUE.is("two more", Tape.work(x, "miss bit 0;round;miss bit 1;round;"), 3);
        DUE.is("eight are done", x.now(1), 8);
        DUE.is("the eighth is read", x.reading(0, 7), 1);
        DUE.is("the ninth leaves the marks", x.now(7), 2);
        DUE.is("what comes behind it is done", Tape.work(x, "round;bit 0 0;round;"), 1);
        DUE.is("what comes behind it: now(3)", x.now(3), 1);
    }

    private static void hundredBegun() {
        doc.term("100 STEPS at most are begun by one WORK (again is none of these), what would come behind is left out.");
        String ninetyNine = "again 9[again 9[bit 0 0;];bit 0 0;bit 0 1;];";
        hundred(ninetyNine, 99, 2);
        hundred(ninetyNine + "bit 1 1;", 100, 2 | 16);
        hundred(ninetyNine + "bit 1 1;bit 2 2;", 100, 2 | 16);
        hundred(ninetyNine + "bit 1 1;again 9[bit 2 2;];", 100, 2 | 16);
        hundred(ninetyNine + "again 9[];bit 1 1;bit 2 2;", 100, 2 | 16);
        hundred(ninetyNine + "again 2[bit 1 1;];", 100, 2 | 16);
        hundred("again 4[again 5[" + "bit 0 0;".repeat(5) + "];];", 100, 0);
        hundred("again 4[again 5[" + "bit 0 0;".repeat(5) + "];];bit 2 2;", 100, 0);
        hundred("again 9[again 9[bit 0 0;bit 0 1;];];", 100, 0);
        leftOut(ninetyNine);
        // rounds behind the eighth are begun, too: 81 of them, and 19 slips of 27
        hundred("again 9[again 9[round;];];again 9[bit 0 0;bit 0 1;bit 0 2;];", 27, 1);
        WovenKeeper x = new WovenKeeper();
        Tape.work(x, "again 9[again 9[bit 0 0;bit 0 1;];];");
        DUE.is("the next work() begins as many", Tape.work(x, "again 9[again 9[bit 0 0;bit 0 1;];];"), 100);
    }

    private static void hundred(String text, int due, int slips) {
        WovenKeeper x = new WovenKeeper();
        DUE.is("work() of " + text, Tape.work(x, text), due);
        DUE.is("slips by " + text, x.now(3), slips);
        DUE.is("fault() of " + text, x.fault(), 0);
    }

    private static void leftOut(String ninetyNine) {
        WovenKeeper x = new WovenKeeper();
        DUE.is("the 100th is done", Tape.work(x, ninetyNine + "miss bit 0;round;weigh 0 0 9;late bit 0 9;both 2 2;"), 100);
        DUE.is("the 100th: now(7)", x.now(7), 1);
        DUE.is("no round is begun behind it", x.now(1), 0);
        DUE.is("no weight is put behind it", x.qubit(0, 0), 1);
        DUE.is("no lateness is put behind it", x.check(0, 0, 3), 1);
        DUE.is("no slip comes behind it", x.now(4), 0);
    }
}
