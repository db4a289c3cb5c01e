/** Puts texts on a keeper's tape. */
final class Tape {
    private Tape() {
    }

    static int[] numbers(String text) {
        int rows = (text.length() + 19) / 20;
        int[] numbers = new int[rows * 5];
        for (int i = 0; i < text.length(); i++) {
            numbers[i / 4] |= (text.charAt(i) & 255) << (24 - i % 4 * 8);
        }
        return numbers;
    }

    /** The text alone is on the tape then, if the tape was empty. */
    static void put(WovenKeeper x, String text) {
        int[] n = numbers(text);
        for (int i = 0; i < n.length; i += 5) {
            x.feed(n[i], n[i + 1], n[i + 2], n[i + 3], n[i + 4]);
        }
        x.end(text.length());
    }

    static int work(WovenKeeper x, String text) {
        x.end(0);
        put(x, text);
        return x.work();
    }

    static String line(WovenKeeper x, int r) {
        int n = x.line(r);
        StringBuilder text = new StringBuilder();
        for (int i = 0; i < n; i++) {
            text.append((char) x.byteAt(i));
        }
        return text.toString();
    }
}
