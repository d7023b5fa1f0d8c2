import java.util.ArrayList;
import java.util.Arrays;
import java.util.List;

/**
 * Every small net and long fixed runs of calls, each answer compared with a plain model of the document that
 * shares nothing with the class: lists of pairs, orders made by recursion, rounds by longest chains.
 */
public final class ModelTest extends Checks {
    private static final int RUNS_PER_WIRE_COUNT = 12;
    private static final int CALLS = 512;
    // As many as the model gets through in a few seconds, by the number of wires.
    private static final int[] MOST_IN_SMALL_NET = {0, 0, 8, 4, 3, 2, 1, 1};
    private static final int[] ODD = {MIN, MAX, -1, 24, 7, 8};

    // A fixed row of numbers, so that each run of the test makes the same calls.
    private static long seed = 20261115L;

    private final int n;
    private final List<int[]> net = new ArrayList<>();
    private final List<int[]> orders = new ArrayList<>();
    private final int[] input;

    private ModelTest(int wires) {
        n = Math.max(2, Math.min(7, wires));
        input = new int[n];
        makeOrders(new int[n], 0, new boolean[n + 1]);
    }

    public static void main(String[] args) {
        for (int wires = 2; wires <= 7; wires++) {
            compareSmallNets(new ModelTest(wires));
        }
        for (int wires = 1; wires <= 8; wires++) {
            for (int run = 0; run < RUNS_PER_WIRE_COUNT; run++) {
                compareRun(wires, run);
            }
        }
        end();
    }

    /** All nets that begin with the model's net, which grows and shrinks with them. */
    private static void compareSmallNets(ModelTest m) {
        compareQuestions(m);
        if (m.net.size() == MOST_IN_SMALL_NET[m.n]) {
            return;
        }
        for (int i = 0; i < m.n; i++) {
            for (int j = 0; j < m.n; j++) {
                if (i != j) {
                    m.add(i, j);
                    compareSmallNets(m);
                    m.drop(m.net.size() - 1);
                }
            }
        }
    }

    private static void compareQuestions(ModelTest m) {
        ComparatorNet x = new ComparatorNet(m.n);
        m.net.forEach(c -> addAll(x, c));
        String where = m.n + " wires, net " + Arrays.deepToString(m.net.toArray());
        due(where + " size", x.size(), m.net.size());
        due(where + " sorts", x.sorts(), m.sorts());
        due(where + " sorted", x.sorted(), m.sorted());
        due(where + " idle", x.idle(), m.idle());
        due(where + " rounds", x.rounds(), m.rounds());
        for (int k = 0; k <= m.net.size(); k++) {
            due(where + " works " + k, x.works(k), m.works(k));
        }
        for (int v = 0; v < m.n; v++) {
            for (int w = 0; w < m.n; w++) {
                due(where + " below " + v + " " + w, x.below(v, w), m.below(v, w));
                due(where + " ranks " + v + " " + (w + 1), x.ranks(v, w + 1), m.ranks(v, w + 1));
            }
        }
    }

    private static int pick(int bound) {
        seed = seed * 6364136223846793005L + 1442695040888963407L;
        return (int) ((seed >>> 33) % bound);
    }

    private static int pickNear(int bound) {
        return pick(16) == 0 ? ODD[pick(ODD.length)] : pick(bound + 1) - pick(30) / 29;
    }

    private static int pickNumber() {
        switch (pick(6)) {
            case 0: return MIN + pick(2);
            case 1: return MAX - pick(2);
            default: return pick(9) - 4;
        }
    }

    private static void compareRun(int wires, int run) {
        ComparatorNet x = new ComparatorNet(wires);
        ModelTest model = new ModelTest(wires);
        // Some runs fill the net, others hold it small, where more comparators are idle or needed.
        int addShare = 2 + run % 6;
        // The model is slow where there are many orders.
        int costlyShare = model.n == 7 ? 8 : model.n == 6 ? 3 : 1;
        for (int call = 0; call < CALLS; call++) {
            int what = pick(16 + addShare);
            if (what >= 10 && what < 16 && pick(costlyShare) != 0) {
                what = 16;
            }
            compareCall(x, model, what, "wires " + wires + ", run " + run + ", call " + call);
        }
    }

    private static void compareCall(ComparatorNet x, ModelTest m, int what, String where) {
        int a = pickNear(m.n);
        int b = pickNear(m.n);
        int k = pickNear(m.net.size());
        int v = pickNumber();
        switch (what) {
            case 0: due(where + " drop " + k, x.drop(k), m.drop(k)); break;
            case 1: due(where + " swap " + k, x.swap(k), m.swap(k)); break;
            case 2: due(where + " turn", x.turn(), m.turn()); break;
            case 3: due(where + " size", x.size(), m.net.size()); break;
            case 4: case 5: case 6:
                due(where + " input " + a + " " + v, x.input(a, v), m.input(a, v)); break;
            case 7: due(where + " output " + a, x.output(a), m.output(a)); break;
            case 8: due(where + " exchanges", x.exchanges(), m.exchanges()); break;
            case 9: due(where + " rounds", x.rounds(), m.rounds()); break;
            case 10: due(where + " sorts", x.sorts(), m.sorts()); break;
            case 11: due(where + " sorted", x.sorted(), m.sorted()); break;
            case 12: due(where + " ranks " + a + " " + b, x.ranks(a, b), m.ranks(a, b)); break;
            case 13: due(where + " works " + k, x.works(k), m.works(k)); break;
            case 14: due(where + " below " + a + " " + b, x.below(a, b), m.below(a, b)); break;
            case 15: due(where + " idle", x.idle(), m.idle()); break;
            default: due(where + " add " + a + " " + b, x.add(a, b), m.add(a, b)); break;
        }
    }

    private void makeOrders(int[] order, int place, boolean[] used) {
        if (place == n) {
            orders.add(order.clone());
            return;
        }
        for (int number = 1; number <= n; number++) {
            if (!used[number]) {
                used[number] = true;
                order[place] = number;
                makeOrders(order, place + 1, used);
                used[number] = false;
            }
        }
    }

    private boolean wire(int w) {
        return 0 <= w && w < n;
    }

    private static int[] outputs(List<int[]> comparators, int[] in) {
        int[] row = in.clone();
        for (int[] c : comparators) {
            int smaller = Math.min(row[c[0]], row[c[1]]);
            int greater = Math.max(row[c[0]], row[c[1]]);
            row[c[0]] = smaller;
            row[c[1]] = greater;
        }
        return row;
    }

    private boolean exchangesAt(int k, int[] in) {
        int[] row = outputs(net.subList(0, k), in);
        return row[net.get(k)[0]] > row[net.get(k)[1]];
    }

    private int add(int i, int j) {
        if (!wire(i) || !wire(j) || i == j) {
            return BAD_ARG;
        }
        if (net.size() == 24) {
            return FULL;
        }
        net.add(new int[] {i, j});
        return net.size();
    }

    private int drop(int k) {
        if (k < 0 || k >= net.size()) {
            return NONE;
        }
        net.remove(k);
        return net.size();
    }

    private int swap(int k) {
        if (k < 0 || k + 1L >= net.size()) {
            return NONE;
        }
        net.add(k, net.remove(k + 1));
        return 0;
    }

    private int turn() {
        net.replaceAll(c -> new int[] {n - 1 - c[1], n - 1 - c[0]});
        return net.size();
    }

    private int input(int w, int v) {
        if (!wire(w)) {
            return BAD_ARG;
        }
        input[w] = v;
        return 0;
    }

    private int output(int w) {
        return wire(w) ? outputs(net, input)[w] : 0;
    }

    private int exchanges() {
        int found = 0;
        for (int k = 0; k < net.size(); k++) {
            found += exchangesAt(k, input) ? 1 : 0;
        }
        return found;
    }

    private int sorts() {
        return sorted() == orders.size() ? 1 : 0;
    }

    private int sorted() {
        int[] rising = orders.get(0);
        return (int) orders.stream().filter(o -> Arrays.equals(outputs(net, o), rising)).count();
    }

    private int ranks(int w, int r) {
        if (!wire(w) || r < 1 || r > n) {
            return BAD_ARG;
        }
        return (int) orders.stream().filter(o -> outputs(net, o)[w] == r).count();
    }

    private int works(int k) {
        if (k < 0 || k >= net.size()) {
            return NONE;
        }
        return (int) orders.stream().filter(o -> exchangesAt(k, o)).count();
    }

    private int below(int v, int w) {
        if (!wire(v) || !wire(w)) {
            return BAD_ARG;
        }
        return (int) orders.stream().filter(o -> {
            int[] row = outputs(net, o);
            return row[v] < row[w];
        }).count();
    }

    private int idle() {
        int found = 0;
        for (int k = 0; k < net.size(); k++) {
            List<int[]> without = new ArrayList<>(net);
            without.remove(k);
            if (orders.stream().allMatch(o -> Arrays.equals(outputs(net, o), outputs(without, o)))) {
                found++;
            }
        }
        return found;
    }

    private int rounds() {
        int[] chain = new int[net.size()];
        int longest = 0;
        for (int k = 0; k < chain.length; k++) {
            int[] c = net.get(k);
            chain[k] = 1;
            for (int e = 0; e < k; e++) {
                int[] d = net.get(e);
                if (c[0] == d[0] || c[0] == d[1] || c[1] == d[0] || c[1] == d[1]) {
                    chain[k] = Math.max(chain[k], chain[e] + 1);
                }
            }
            longest = Math.max(longest, chain[k]);
        }
        return longest;
    }
}
