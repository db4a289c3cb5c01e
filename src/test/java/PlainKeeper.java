import java.math.BigInteger;
import java.util.ArrayDeque;
import java.util.ArrayList;
import java.util.Arrays;
import java.util.Deque;
import java.util.HashMap;
import java.util.List;
import java.util.Map;
import java.util.NoSuchElementException;

/** The document again, in the slowest and plainest way, to hold the class against: no code is shared with it. */
final class PlainKeeper {
    static final int NONE = -1;

    /** A CODE with all that is so. */
    private static final class State {
        int d = 3;
        List<List<int[]>> faces = new ArrayList<>();
        boolean[][] slip;
        int[] weight;
        int[][] late;
        boolean[][] mark;
        List<boolean[][]> rounds = new ArrayList<>();

        State(int size) {
            d = size;
            faces.add(new ArrayList<>());
            faces.add(new ArrayList<>());
            for (int i = 0; i <= d; i++) {
                for (int j = 0; j <= d; j++) {
                    boolean even = (i + j) % 2 == 0;
                    boolean iIn = i >= 1 && i <= d - 1;
                    boolean jIn = j >= 1 && j <= d - 1;
                    if (iIn && jIn) {
                        faces.get(even ? 0 : 1).add(new int[] {i, j});
                    } else if ((j == 0 || j == d) && iIn && even) {
                        faces.get(0).add(new int[] {i, j});
                    } else if ((i == 0 || i == d) && jIn && !even) {
                        faces.get(1).add(new int[] {i, j});
                    }
                }
            }
            slip = new boolean[2][d * d];
            weight = new int[d * d];
            Arrays.fill(weight, 1);
            late = new int[2][k()];
            Arrays.fill(late[0], 1);
            Arrays.fill(late[1], 1);
            mark = new boolean[2][k()];
        }

        State copy() {
            State s = new State(d);
            for (int kind = 0; kind < 2; kind++) {
                s.slip[kind] = slip[kind].clone();
                s.late[kind] = late[kind].clone();
                s.mark[kind] = mark[kind].clone();
            }
            s.weight = weight.clone();
            s.rounds.addAll(rounds);
            return s;
        }

        int k() {
            return faces.get(0).size();
        }

        boolean isOn(int kind, int check, int q) {
            int[] face = faces.get(kind).get(check);
            int row = q / d;
            int column = q % d;
            return (row == face[0] - 1 || row == face[0]) && (column == face[1] - 1 || column == face[1]);
        }

        boolean loud(int kind, int check, boolean[] set) {
            boolean odd = false;
            for (int q = 0; q < d * d; q++) {
                odd ^= set[q] && isOn(kind, check, q);
            }
            return odd;
        }

        boolean[] allLoud(int kind, boolean[] set) {
            boolean[] all = new boolean[k()];
            for (int c = 0; c < k(); c++) {
                all[c] = loud(kind, c, set);
            }
            return all;
        }

        int logical(int kind, boolean[] set) {
            int sum = 0;
            for (int n = 0; n < d; n++) {
                sum += set[kind == 0 ? n : n * d] ? 1 : 0;
            }
            return sum % 2;
        }

        boolean round() {
            if (rounds.size() == 8) {
                return false;
            }
            boolean[][] read = new boolean[2][k()];
            for (int kind = 0; kind < 2; kind++) {
                for (int c = 0; c < k(); c++) {
                    read[kind][c] = loud(kind, c, slip[kind]) != mark[kind][c];
                    mark[kind][c] = false;
                }
            }
            rounds.add(read);
            return true;
        }
    }

    private record Edge(int number, int a, int b, int weight, int qubit, int check, int layer) {
    }

    private record Way(int weight, List<Integer> edges) {
    }

    private record Paired(int weight, int[] partners, int many) {
    }

    private record Peeled(int steps, int whole, int forest, List<Edge> peeled) {
    }

    private static final class Fault extends Exception {
        private static final long serialVersionUID = 1L;
        final int kind;
        final int place;

        Fault(int kind, int place) {
            this.kind = kind;
            this.place = place;
        }
    }

    private interface Deed {
        boolean on(State s);
    }

    private record Step(Deed deed, int times, List<Step> within) {
    }

    private State s = new State(3);
    private final List<Integer> tape = new ArrayList<>();
    private int fault;
    private Paired latestPaired;
    private Peeled latestPeeled;
    private String latestLine = "";
    private final Deque<State> past = new ArrayDeque<>();
    private final State[] images = new State[2];

    int feed(int... five) {
        if (tape.size() + 20 > 240) {
            return NONE;
        }
        for (int n : five) {
            for (int i = 3; i >= 0; i--) {
                tape.add((n >> (8 * i)) & 0xff);
            }
        }
        return tape.size();
    }

    boolean end(int n) {
        if (n < 0 || n > tape.size()) {
            return false;
        }
        tape.subList(n, tape.size()).clear();
        return true;
    }

    int code(int size) {
        if (size != 3 && size != 5) {
            return NONE;
        }
        s = new State(size);
        past.clear();
        return size * size;
    }

    // ---- WORK

    private String text;
    private int at;
    private int stepsRead;
    private int begun;
    private int done;

    int work() {
        StringBuilder b = new StringBuilder();
        for (int c : tape) {
            b.append((char) c);
        }
        text = b.toString();
        tape.clear();
        at = 0;
        stepsRead = 0;
        fault = 0;
        try {
            if (text.length() > 200) {
                throw new Fault(1, 200);
            }
            List<Step> steps = steps(0);
            if (at < text.length()) {
                throw new Fault(1, at);
            }
            remember();
            begun = 0;
            done = 0;
            doAll(steps);
            return done;
        } catch (Fault f) {
            fault = f.kind;
            return -1000 - f.place;
        }
    }

    private void doAll(List<Step> steps) {
        for (Step step : steps) {
            if (step.deed == null) {
                for (int n = 0; n < step.times; n++) {
                    doAll(step.within);
                }
            } else if (begun < 100) {
                begun++;
                done += step.deed.on(s) ? 1 : 0;
            }
        }
    }

    private void blanks() {
        while (at < text.length() && text.charAt(at) == 32) {
            at++;
        }
    }

    private List<Step> steps(int depth) throws Fault {
        List<Step> all = new ArrayList<>();
        while (true) {
            blanks();
            if (at == text.length() && depth == 0) {
                return all;
            }
            if (at < text.length() && text.charAt(at) == ']' && depth > 0) {
                return all;
            }
            all.add(step(depth));
            sign(';');
        }
    }

    private void sign(char c) throws Fault {
        blanks();
        if (at >= text.length() || text.charAt(at) != c) {
            throw new Fault(1, at);
        }
        at++;
    }

    private String word() {
        blanks();
        int from = at;
        while (at < text.length() && Character.toString(text.charAt(at)).matches("[a-z]")) {
            at++;
        }
        return text.substring(from, at);
    }

    private int number(int least, int most) throws Fault {
        blanks();
        int from = at;
        while (at < text.length() && Character.toString(text.charAt(at)).matches("[0-9]")) {
            at++;
        }
        if (from == at) {
            throw new Fault(1, from);
        }
        BigInteger n = new BigInteger(text.substring(from, at));
        if (n.compareTo(BigInteger.valueOf(least)) < 0 || n.compareTo(BigInteger.valueOf(most)) > 0) {
            throw new Fault(2, from);
        }
        return n.intValue();
    }

    private int kind() throws Fault {
        blanks();
        int from = at;
        int kind = List.of("bit", "phase").indexOf(word());
        if (kind < 0) {
            throw new Fault(1, from);
        }
        return kind;
    }

    private Step step(int depth) throws Fault {
        int from = at;
        String word = word();
        if (!List.of("bit", "phase", "both", "miss", "round", "weigh", "late", "again").contains(word)) {
            throw new Fault(1, from);
        }
        stepsRead++;
        if (stepsRead > 30) {
            throw new Fault(3, from);
        }
        int d = s.d;
        switch (word) {
            case "miss": {
                int kind = kind();
                int c = number(0, s.k() - 1);
                return new Step(x -> {
                    x.mark[kind][c] = !x.mark[kind][c];
                    return true;
                }, 0, null);
            }
            case "round":
                return new Step(State::round, 0, null);
            case "weigh": {
                int r = number(0, d - 1);
                int c = number(0, d - 1);
                int n = number(1, 9);
                return new Step(x -> {
                    x.weight[r * d + c] = n;
                    return true;
                }, 0, null);
            }
            case "late": {
                int kind = kind();
                int c = number(0, s.k() - 1);
                int n = number(1, 9);
                return new Step(x -> {
                    x.late[kind][c] = n;
                    return true;
                }, 0, null);
            }
            case "again": {
                if (depth == 2) {
                    throw new Fault(4, from);
                }
                int n = number(1, 9);
                sign('[');
                List<Step> within = steps(depth + 1);
                sign(']');
                return new Step(null, n, within);
            }
            default: {
                int r = number(0, d - 1);
                int c = number(0, d - 1);
                boolean bit = !word.equals("phase");
                boolean phase = !word.equals("bit");
                return new Step(x -> {
                    x.slip[0][r * d + c] ^= bit;
                    x.slip[1][r * d + c] ^= phase;
                    return true;
                }, 0, null);
            }
        }
    }

    int fault() {
        return fault;
    }

    // ---- what is so

    private static int bits(boolean[] set) {
        int bits = 0;
        for (int i = 0; i < set.length; i++) {
            bits += set[i] ? 1 << i : 0;
        }
        return bits;
    }

    private static boolean[] unbits(int bits, int n) {
        boolean[] set = new boolean[n];
        for (int i = 0; i < n; i++) {
            set[i] = (bits >> i & 1) == 1;
        }
        return set;
    }

    private boolean noKind(int kind) {
        return kind != 0 && kind != 1;
    }

    int now(int what) {
        return switch (what) {
            case 0 -> s.d;
            case 1 -> s.rounds.size();
            case 2 -> s.k();
            case 3, 4 -> bits(s.slip[what - 3]);
            case 5, 6 -> bits(s.allLoud(what - 5, s.slip[what - 5]));
            case 7, 8 -> bits(s.mark[what - 7]);
            case 9 -> tape.size();
            default -> NONE;
        };
    }

    int check(int kind, int k, int what) {
        if (noKind(kind) || k < 0 || k >= s.k() || what < 0 || what > 3) {
            throw new NoSuchElementException();
        }
        if (what < 2) {
            return s.faces.get(kind).get(k)[what];
        }
        if (what == 3) {
            return s.late[kind][k];
        }
        int bits = 0;
        for (int q = 0; q < s.d * s.d; q++) {
            bits += s.isOn(kind, k, q) ? 1 << q : 0;
        }
        return bits;
    }

    int qubit(int q, int what) {
        if (q < 0 || q >= s.d * s.d || what < 0 || what > 2) {
            throw new NoSuchElementException();
        }
        if (what == 0) {
            return s.weight[q];
        }
        int bits = 0;
        for (int k = 0; k < s.k(); k++) {
            bits += s.isOn(what - 1, k, q) ? 1 << k : 0;
        }
        return bits;
    }

    int reading(int kind, int round) {
        if (noKind(kind) || round < 0 || round >= s.rounds.size()) {
            return NONE;
        }
        return bits(s.rounds.get(round)[kind]);
    }

    // ---- LAYERS, EVENTS, EDGES, WAYS

    private List<int[]> allEvents(State x, int kind) {
        List<int[]> all = new ArrayList<>();
        List<boolean[]> layers = new ArrayList<>();
        layers.add(new boolean[x.k()]);
        for (boolean[][] round : x.rounds) {
            layers.add(round[kind]);
        }
        layers.add(x.allLoud(kind, x.slip[kind]));
        for (int t = 1; t < layers.size(); t++) {
            for (int c = 0; c < x.k(); c++) {
                if (layers.get(t)[c] != layers.get(t - 1)[c]) {
                    all.add(new int[] {c, t - 1});
                }
            }
        }
        return all;
    }

    private int spot(State x, int[] event) {
        return event[1] * x.k() + event[0];
    }

    private int border(State x) {
        return (x.rounds.size() + 1) * x.k();
    }

    private List<Edge> allEdges(State x, int kind) {
        List<Edge> all = new ArrayList<>();
        int k = x.k();
        int dd = x.d * x.d;
        for (int t = 0; t <= x.rounds.size(); t++) {
            for (int q = 0; q < dd; q++) {
                List<Integer> ends = new ArrayList<>();
                for (int c = 0; c < k; c++) {
                    if (x.isOn(kind, c, q)) {
                        ends.add(t * k + c);
                    }
                }
                if (ends.size() == 1) {
                    ends.add(border(x));
                }
                if (ends.size() != 2) {
                    throw new AssertionError("a qubit on " + ends.size());
                }
                all.add(new Edge(t * (dd + k) + q, ends.get(0), ends.get(1), x.weight[q], q, NONE, t));
            }
            for (int c = 0; c < k && t < x.rounds.size(); c++) {
                int n = t * (dd + k) + dd + c;
                all.add(new Edge(n, t * k + c, (t + 1) * k + c, x.late[kind][c], NONE, c, t));
            }
        }
        return all;
    }

    private static boolean better(Way a, Way b) {
        if (b == null || a.weight != b.weight) {
            return b == null || a.weight < b.weight;
        }
        for (int i = 0; i < a.edges.size() && i < b.edges.size(); i++) {
            int c = Integer.compare(a.edges.get(i), b.edges.get(i));
            if (c != 0) {
                return c < 0;
            }
        }
        return a.edges.size() < b.edges.size();
    }

    /** Best ways from a spot to all others, made longer as long as one gets better. */
    private Way[] waysFrom(State x, int kind, int start) {
        Way[] best = new Way[border(x) + 1];
        best[start] = new Way(0, List.of());
        List<Edge> edges = allEdges(x, kind);
        boolean changed = true;
        while (changed) {
            changed = false;
            for (Edge e : edges) {
                changed |= longer(best, e, e.a, e.b, border(x));
                changed |= longer(best, e, e.b, e.a, border(x));
            }
        }
        return best;
    }

    private boolean longer(Way[] best, Edge e, int from, int to, int border) {
        if (from == border || best[from] == null) {
            return false;
        }
        int weight = best[from].weight + e.weight;
        if (best[to] != null && best[to].weight < weight) {
            return false;
        }
        List<Integer> path = new ArrayList<>(best[from].edges);
        path.add(e.number);
        Way way = new Way(weight, path);
        if (!better(way, best[to])) {
            return false;
        }
        best[to] = way;
        return true;
    }

    int events(int kind) {
        return noKind(kind) ? NONE : allEvents(s, kind).size();
    }

    int event(int kind, int i, int what) {
        if (noKind(kind) || i < 0 || i >= events(kind) || what < 0 || what > 1) {
            return NONE;
        }
        return allEvents(s, kind).get(i)[what];
    }

    private Way theWay(int kind, int i, int j) {
        if (noKind(kind) || i == j || i < 0 || i >= events(kind) || j < -1 || j >= events(kind)) {
            return null;
        }
        List<int[]> events = allEvents(s, kind);
        int goal = j == NONE ? border(s) : spot(s, events.get(j));
        return waysFrom(s, kind, spot(s, events.get(i)))[goal];
    }

    int far(int kind, int i, int j) {
        Way way = theWay(kind, i, j);
        return way == null ? NONE : way.weight;
    }

    int way(int kind, int i, int j, int k) {
        Way way = theWay(kind, i, j);
        return way == null || k < 0 || k >= way.edges.size() ? NONE : way.edges.get(k);
    }

    // ---- PAIRING

    private int bestSum;
    private int[] bestPartners;
    private int bestMany;

    private Paired paired(State x, int kind) {
        List<int[]> events = allEvents(x, kind);
        int n = events.size();
        if (n > 14) {
            return null;
        }
        int[][] far = new int[n][n + 1];
        for (int i = 0; i < n; i++) {
            Way[] ways = waysFrom(x, kind, spot(x, events.get(i)));
            for (int j = 0; j < n; j++) {
                far[i][j] = ways[spot(x, events.get(j))].weight;
            }
            far[i][n] = ways[border(x)].weight;
        }
        bestSum = Integer.MAX_VALUE;
        bestPartners = new int[n];
        bestMany = 0;
        int[] partners = new int[n];
        Arrays.fill(partners, NONE);
        tryAll(far, partners, 0, 0);
        return new Paired(bestSum, bestPartners, bestMany);
    }

    /** All pairings, one behind the other in the order that makes the first of like ones the first met. */
    private void tryAll(int[][] far, int[] partners, int i, int sum) {
        int n = partners.length;
        if (sum > bestSum) {
            return;
        }
        if (i == n) {
            if (sum < bestSum) {
                bestSum = sum;
                bestPartners = partners.clone();
                bestMany = 0;
            }
            bestMany++;
            return;
        }
        if (partners[i] != NONE) {
            tryAll(far, partners, i + 1, sum);
            return;
        }
        for (int j = i + 1; j < n; j++) {
            if (partners[j] == NONE) {
                partners[i] = j;
                partners[j] = i;
                tryAll(far, partners, i + 1, sum + far[i][j]);
                partners[j] = NONE;
            }
        }
        partners[i] = -2;
        tryAll(far, partners, i + 1, sum + far[i][n]);
        partners[i] = NONE;
    }

    private int[] usesByPairing(State x, int kind) {
        Paired p = paired(x, kind);
        if (p == null) {
            return null;
        }
        int[] uses = new int[allEdges(x, kind).size()];
        List<int[]> events = allEvents(x, kind);
        for (int i = 0; i < events.size(); i++) {
            int j = p.partners[i];
            if (j == -2 || j > i) {
                int goal = j == -2 ? border(x) : spot(x, events.get(j));
                for (int e : waysFrom(x, kind, spot(x, events.get(i)))[goal].edges) {
                    uses[e]++;
                }
            }
        }
        return uses;
    }

    int pair(int kind) {
        Paired p = noKind(kind) ? null : paired(s, kind);
        if (p == null) {
            return NONE;
        }
        latestPaired = p;
        return p.weight;
    }

    int partner(int i) {
        return latestPaired == null || i < 0 || i >= latestPaired.partners.length ? NONE : latestPaired.partners[i];
    }

    int pairings(int kind) {
        Paired p = noKind(kind) ? null : paired(s, kind);
        return p == null ? NONE : p.many;
    }

    // ---- GROWN

    private static void relabel(int[] label, int a, int b) {
        int from = label[a];
        int to = label[b];
        for (int i = 0; i < label.length; i++) {
            if (label[i] == from) {
                label[i] = to;
            }
        }
    }

    private Peeled peeled(State x, int kind) {
        List<Edge> edges = allEdges(x, kind);
        int border = border(x);
        boolean[] isEvent = new boolean[border + 1];
        for (int[] event : allEvents(x, kind)) {
            isEvent[spot(x, event)] = true;
        }
        int[] label = new int[border + 1];
        for (int i = 0; i <= border; i++) {
            label[i] = i;
        }
        int[] grown = new int[edges.size()];
        boolean[] whole = new boolean[edges.size()];
        int steps = 0;
        while (true) {
            boolean[] open = openSpots(label, isEvent, border);
            boolean some = false;
            for (boolean o : open) {
                some |= o;
            }
            if (!some) {
                break;
            }
            steps++;
            for (Edge e : edges) {
                if (!whole[e.number]) {
                    grown[e.number] += (open[e.a] ? 1 : 0) + (e.b != border && open[e.b] ? 1 : 0);
                }
            }
            for (Edge e : edges) {
                if (grown[e.number] >= 2 * e.weight) {
                    whole[e.number] = true;
                    relabel(label, e.a, e.b);
                }
            }
        }
        return peel(edges, whole, isEvent, steps, border);
    }

    private static boolean[] openSpots(int[] label, boolean[] isEvent, int border) {
        boolean[] open = new boolean[label.length];
        for (int i = 0; i < border; i++) {
            int odd = 0;
            for (int j = 0; j < border; j++) {
                odd += label[j] == label[i] && isEvent[j] ? 1 : 0;
            }
            open[i] = odd % 2 == 1 && label[i] != label[border];
        }
        return open;
    }

    private static Peeled peel(List<Edge> edges, boolean[] whole, boolean[] isEvent, int steps, int border) {
        int[] tree = new int[border + 1];
        for (int i = 0; i <= border; i++) {
            tree[i] = i;
        }
        List<Edge> forest = new ArrayList<>();
        int wholes = 0;
        for (Edge e : edges) {
            if (whole[e.number]) {
                wholes++;
                if (tree[e.a] != tree[e.b]) {
                    forest.add(e);
                    relabel(tree, e.a, e.b);
                }
            }
        }
        List<Edge> peeled = new ArrayList<>();
        for (Edge cut : forest) {
            boolean[] side = reach(forest, cut, cut.a, border);
            if (side[border]) {
                side = reach(forest, cut, cut.b, border);
            }
            int odd = 0;
            for (int i = 0; i < border; i++) {
                odd += side[i] && isEvent[i] ? 1 : 0;
            }
            if (odd % 2 == 1) {
                peeled.add(cut);
            }
        }
        return new Peeled(steps, wholes, forest.size(), peeled);
    }

    private static boolean[] reach(List<Edge> forest, Edge cut, int from, int border) {
        boolean[] met = new boolean[border + 1];
        met[from] = true;
        boolean more = true;
        while (more) {
            more = false;
            for (Edge e : forest) {
                if (e != cut && met[e.a] != met[e.b]) {
                    met[e.a] = true;
                    met[e.b] = true;
                    more = true;
                }
            }
        }
        return met;
    }

    int grow(int kind) {
        if (noKind(kind)) {
            return NONE;
        }
        latestPeeled = peeled(s, kind);
        return latestPeeled.peeled.stream().mapToInt(Edge::weight).sum();
    }

    int grown(int what) {
        if (latestPeeled == null) {
            return NONE;
        }
        return switch (what) {
            case 0 -> latestPeeled.steps;
            case 1 -> latestPeeled.whole;
            case 2 -> latestPeeled.forest;
            case 3 -> latestPeeled.peeled.size();
            default -> NONE;
        };
    }

    int peeledAt(int k) {
        if (latestPeeled == null || k < 0 || k >= latestPeeled.peeled.size()) {
            return NONE;
        }
        return latestPeeled.peeled.get(k).number;
    }

    private int[] usesByPeeling(State x, int kind) {
        int[] uses = new int[allEdges(x, kind).size()];
        for (Edge e : peeled(x, kind).peeled) {
            uses[e.number]++;
        }
        return uses;
    }

    int blame(int kind, int how, int round) {
        if (noKind(kind) || how < 0 || how > 1 || round < 0 || round >= s.rounds.size()) {
            return NONE;
        }
        int[] uses = how == 0 ? usesByPairing(s, kind) : usesByPeeling(s, kind);
        if (uses == null) {
            return NONE;
        }
        boolean[] blamed = new boolean[s.k()];
        for (Edge e : allEdges(s, kind)) {
            if (e.check != NONE && e.layer == round) {
                blamed[e.check] = uses[e.number] % 2 == 1;
            }
        }
        return bits(blamed);
    }

    int edges(int kind) {
        return noKind(kind) ? NONE : allEdges(s, kind).size();
    }

    int edge(int kind, int e, int what) {
        if (noKind(kind) || e < 0 || e >= edges(kind) || what < 0 || what > 2) {
            throw new NoSuchElementException();
        }
        Edge x = allEdges(s, kind).get(e);
        if (x.number != e) {
            throw new AssertionError("edges out of order");
        }
        if (what == 2) {
            return x.weight;
        }
        int least = Math.min(x.a, x.b);
        int most = Math.max(x.a, x.b);
        return what == 0 ? least : most == border(s) ? NONE : most;
    }

    // ---- CORRECTION

    private boolean[] corrected(State x, int kind, int how) {
        if (noKind(kind) || how < 0 || how > 2) {
            return null;
        }
        if (how == 2) {
            return lightest(x, kind);
        }
        int[] uses = how == 0 ? usesByPairing(x, kind) : usesByPeeling(x, kind);
        if (uses == null) {
            return null;
        }
        boolean[] set = new boolean[x.d * x.d];
        for (Edge e : allEdges(x, kind)) {
            if (e.qubit != NONE && uses[e.number] % 2 == 1) {
                set[e.qubit] = !set[e.qubit];
            }
        }
        return set;
    }

    private int resultIn(State x, int kind, int how) {
        boolean[] set = corrected(x, kind, how);
        if (set == null) {
            return NONE;
        }
        boolean[] left = new boolean[set.length];
        for (int q = 0; q < left.length; q++) {
            left[q] = set[q] != x.slip[kind][q];
        }
        if (bits(x.allLoud(kind, left)) != 0) {
            throw new AssertionError("what is left is loud");
        }
        return x.logical(kind, left);
    }

    int correction(int kind, int how) {
        boolean[] set = corrected(s, kind, how);
        return set == null ? NONE : bits(set);
    }

    int result(int kind, int how) {
        return resultIn(s, kind, how);
    }

    int correct(int kind, int how) {
        boolean[] set = corrected(s, kind, how);
        if (set == null) {
            return NONE;
        }
        remember();
        int n = 0;
        for (int q = 0; q < set.length; q++) {
            s.slip[kind][q] ^= set[q];
            n += set[q] ? 1 : 0;
        }
        return n;
    }

    // ---- LIKE sets: qubit by qubit, what can be loud by the qubits so far

    private int loudBy(State x, int kind, int q) {
        int bits = 0;
        for (int c = 0; c < x.k(); c++) {
            bits |= x.isOn(kind, c, q) ? 1 << c : 0;
        }
        boolean[] one = new boolean[x.d * x.d];
        one[q] = true;
        return bits | x.logical(kind, one) << x.k();
    }

    /** For each pattern (loud checks, and the logical above them) the least weight and set. */
    private Map<Integer, int[]> leastSets(State x, int kind) {
        Map<Integer, int[]> least = new HashMap<>();
        least.put(0, new int[] {0, 0});
        for (int q = 0; q < x.d * x.d; q++) {
            Map<Integer, int[]> next = new HashMap<>(least);
            for (Map.Entry<Integer, int[]> e : least.entrySet()) {
                int[] with = {e.getValue()[0] + x.weight[q], e.getValue()[1] | 1 << q};
                next.merge(e.getKey() ^ loudBy(x, kind, q), with,
                        (a, b) -> a[0] != b[0] ? (a[0] < b[0] ? a : b) : a[1] < b[1] ? a : b);
            }
            least = next;
        }
        return least;
    }

    private boolean[] lightest(State x, int kind) {
        int loud = bits(x.allLoud(kind, x.slip[kind]));
        Map<Integer, int[]> least = leastSets(x, kind);
        int[] a = least.get(loud);
        int[] b = least.get(loud | 1 << x.k());
        boolean first = a[0] != b[0] ? a[0] < b[0] : a[1] < b[1];
        return unbits(first ? a[1] : b[1], x.d * x.d);
    }

    int distance(int kind) {
        return noKind(kind) ? NONE : leastSets(s, kind).get(1 << s.k())[0];
    }

    private long[] sizes(int kind, int logical) {
        int n = s.d * s.d;
        int patterns = 2 << s.k();
        long[][] count = new long[patterns][n + 1];
        count[0][0] = 1;
        for (int q = 0; q < n; q++) {
            int by = loudBy(s, kind, q);
            long[][] next = new long[patterns][n + 1];
            for (int p = 0; p < patterns; p++) {
                for (int i = 0; i <= q; i++) {
                    next[p][i] += count[p][i];
                    next[p ^ by][i + 1] += count[p][i];
                }
            }
            count = next;
        }
        return count[bits(s.allLoud(kind, s.slip[kind])) | logical << s.k()];
    }

    private boolean noLogical(int kind, int logical) {
        return noKind(kind) || logical < 0 || logical > 1;
    }

    int like(int kind, int logical, int n) {
        return noLogical(kind, logical) || n < 0 || n > s.d * s.d ? NONE : (int) sizes(kind, logical)[n];
    }

    long odds(int kind, int logical, int a, int b) {
        if (noLogical(kind, logical) || a < 0 || a > 99 || b < 0 || b > 99) {
            return NONE;
        }
        long[] sizes = sizes(kind, logical);
        BigInteger sum = BigInteger.ZERO;
        for (int n = 0; n < sizes.length; n++) {
            BigInteger each = BigInteger.valueOf(a).pow(n).multiply(BigInteger.valueOf(b).pow(s.d * s.d - n));
            sum = sum.add(each.multiply(BigInteger.valueOf(sizes[n])));
        }
        return sum.compareTo(BigInteger.valueOf(Long.MAX_VALUE)) > 0 ? NONE : sum.longValue();
    }

    int fewest(int kind, int logical) {
        if (noLogical(kind, logical)) {
            return NONE;
        }
        long[] sizes = sizes(kind, logical);
        int n = 0;
        while (sizes[n] == 0) {
            n++;
        }
        return n;
    }

    // ---- what else changes it

    int press(int kind, int k) {
        if (noKind(kind) || k < 0 || k >= s.k()) {
            return NONE;
        }
        remember();
        for (int q = 0; q < s.d * s.d; q++) {
            s.slip[1 - kind][q] ^= s.isOn(kind, k, q);
        }
        return s.logical(1 - kind, s.slip[1 - kind]);
    }

    int chain(int kind) {
        if (noKind(kind)) {
            return NONE;
        }
        remember();
        for (int n = 0; n < s.d; n++) {
            s.slip[kind][kind == 0 ? n * s.d : n] ^= true;
        }
        return s.logical(kind, s.slip[kind]);
    }

    int line(int r) {
        if (r < 0 || r > 2 * s.d) {
            return NONE;
        }
        StringBuilder b = new StringBuilder();
        for (int p = 0; p <= 2 * s.d; p++) {
            char c = ' ';
            if (r % 2 == 0 && p % 2 == 0) {
                for (int kind = 0; kind < 2; kind++) {
                    for (int k = 0; k < s.k(); k++) {
                        if (Arrays.equals(s.faces.get(kind).get(k), new int[] {r / 2, p / 2})) {
                            c = (s.loud(kind, k, s.slip[kind]) ? "BP" : "bp").charAt(kind);
                        }
                    }
                }
            } else if (r % 2 == 1 && p % 2 == 1) {
                int q = r / 2 * s.d + p / 2;
                c = ".+-*".charAt((s.slip[0][q] ? 1 : 0) + (s.slip[1][q] ? 2 : 0));
            }
            b.append(c);
        }
        latestLine = b.toString();
        return latestLine.length();
    }

    int byteAt(int i) {
        return i < 0 || i >= latestLine.length() ? NONE : latestLine.charAt(i);
    }

    private boolean notDrawn(int rounds, int e) {
        return rounds < 1 || rounds > 8 || e < 0 || e > 21 || s.rounds.size() + rounds > 8;
    }

    private int seed;

    private int draw() {
        seed = seed * 1103515245 + 12345;
        return (seed >>> 8) % 64;
    }

    private int drawOn(State x, int rounds, int e, int from) {
        seed = from;
        int came = 0;
        for (int r = 0; r < rounds; r++) {
            for (int q = 0; q < x.d * x.d; q++) {
                int n = draw();
                if (n < e) {
                    x.slip[0][q] ^= true;
                    came++;
                } else if (n < 2 * e) {
                    x.slip[1][q] ^= true;
                    came++;
                } else if (n < 3 * e) {
                    x.slip[0][q] ^= true;
                    x.slip[1][q] ^= true;
                    came += 2;
                }
            }
            for (int kind = 0; kind < 2; kind++) {
                for (int k = 0; k < x.k(); k++) {
                    x.mark[kind][k] ^= draw() < e;
                }
            }
            x.round();
        }
        return came;
    }

    int drawn(int rounds, int e, int from) {
        if (notDrawn(rounds, e)) {
            return NONE;
        }
        remember();
        return drawOn(s, rounds, e, from);
    }

    int often(int kind, int how, int rounds, int e, int from, int n) {
        if (noKind(kind) || how < 0 || how > 2 || notDrawn(rounds, e) || n < 1 || n > 8) {
            return NONE;
        }
        int ones = 0;
        for (int i = 0; i < n; i++) {
            State x = s.copy();
            drawOn(x, rounds, e, from + i);
            ones += resultIn(x, kind, how) == 1 ? 1 : 0;
        }
        return ones;
    }

    // ---- undone, images

    private void remember() {
        past.push(s.copy());
        if (past.size() > 8) {
            past.removeLast();
        }
    }

    int undo() {
        if (past.isEmpty()) {
            return NONE;
        }
        s = past.pop();
        return past.size();
    }

    boolean image(int k) {
        if (k != 0 && k != 1) {
            return false;
        }
        images[k] = s.copy();
        return true;
    }

    boolean restore(int k) {
        if ((k != 0 && k != 1) || images[k] == null) {
            return false;
        }
        s = images[k].copy();
        past.clear();
        return true;
    }
}
