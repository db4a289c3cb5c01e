import java.util.Random;

/** Texts of WORK by chance: right ones, and right ones that were spoilt. */
final class Texts {
    private final Random random;
    private final int size;
    private final int checks;
    private final StringBuilder text = new StringBuilder();

    private Texts(Random random, int size, int checks) {
        this.random = random;
        this.size = size;
        this.checks = checks;
    }

    static String work(Random random, int size, int checks, int most) {
        Texts t = new Texts(random, size, checks);
        int steps = random.nextInt(most + 1);
        if (random.nextInt(15) == 0) {
            steps = 28 + random.nextInt(6);
        }
        boolean brief = steps > 20;
        t.steps(steps, 0, brief);
        if (random.nextInt(5) == 0) {
            t.spoil();
        }
        String all = t.text.toString();
        return all.length() > 240 ? all.substring(0, 240) : all;
    }

    private int below(int n) {
        return random.nextInt(n);
    }

    private void blank() {
        for (int n = below(8) == 0 ? below(3) : 0; n > 0; n--) {
            text.append(' ');
        }
    }

    private void number(int least, int most) {
        blank();
        int n = below(150) == 0 ? most + 1 + below(3) : least + below(most - least + 1);
        if (below(150) == 0) {
            n = 0;
        }
        text.append(below(2) == 0 ? " " : "");
        if (Character.isDigit(text.charAt(text.length() - 1))) {
            text.append(' ');
        }
        text.append(below(20) == 0 ? "00" : "").append(n);
    }

    private void kind() {
        text.append(' ');
        blank();
        text.append(below(2) == 0 ? "bit" : "phase");
    }

    private void steps(int n, int depth, boolean brief) {
        for (int i = 0; i < n; i++) {
            blank();
            step(depth, brief);
            blank();
            text.append(';');
        }
        blank();
    }

    private void step(int depth, boolean brief) {
        switch (brief ? below(2) * 3 : below(9)) {
            case 0 -> place("bit");
            case 1 -> place("phase");
            case 2 -> place("both");
            case 3, 4 -> text.append("round");
            case 5 -> {
                text.append("miss");
                kind();
                number(0, checks - 1);
            }
            case 6 -> {
                place("weigh");
                number(1, 9);
            }
            case 7 -> {
                text.append("late");
                kind();
                number(0, checks - 1);
                number(1, 9);
            }
            default -> again(depth);
        }
    }

    private void place(String word) {
        text.append(word);
        number(0, size - 1);
        number(0, size - 1);
    }

    private void again(int depth) {
        if (depth >= 2 && below(6) > 0) {
            text.append("round");
            return;
        }
        text.append("again");
        number(1, 9);
        blank();
        text.append('[');
        steps(below(4), depth + 1, false);
        text.append(']');
    }

    private void spoil() {
        if (text.length() == 0) {
            text.append("]");
            return;
        }
        int at = below(text.length());
        String signs = " ;[]09abz\tA\u00e9\u0000";
        switch (below(4)) {
            case 0 -> text.deleteCharAt(at);
            case 1 -> text.insert(at, signs.charAt(below(signs.length())));
            case 2 -> text.setCharAt(at, signs.charAt(below(signs.length())));
            default -> text.setLength(at);
        }
    }
}
