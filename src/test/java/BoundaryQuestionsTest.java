/**
 * The boundary cases that promises 8 to 16 name: the questions about the input and about all orders.
 * Each sentence has a method of its own, with the sentence above it.
 */
public final class BoundaryQuestionsTest extends Checks {
    private static final int[] SIZES = {0, 1, 2, 3, 12, 22, 23, 24};

    // For 2 to 7 wires, a net that misses as few orders as any that does not sort, and how many these are.
    private static final int[][] NEARLY_SORTS = {
        {},
        {0, 2, 0, 1},
        {0, 1, 2, 3, 0, 2, 1, 2, 2, 3},
        {0, 1, 3, 4, 0, 2, 1, 2, 1, 3, 2, 4, 0, 1, 2, 3},
        {0, 1, 3, 4, 0, 2, 1, 5, 1, 3, 4, 5, 3, 4, 0, 1, 2, 3, 1, 2, 3, 4, 4, 5},
        {0, 1, 2, 3, 4, 5, 0, 2, 1, 3, 1, 6, 1, 4, 5, 6, 4, 5, 0, 1, 2, 4, 3, 5, 1, 2, 3, 4, 4, 6, 5, 6}};
    private static final int[] MISSED = {1, 2, 4, 12, 36, 144};
    // The one comparator that makes each of them sort.
    private static final int[][] MENDED_BY = {{0, 1}, {1, 2}, {1, 2}, {1, 2}, {2, 3}, {2, 3}};

    // Nets of 3 wires that miss 2 orders each, and of 4 wires that miss 4 each: every order is missed by one.
    private static final int[][] MISS_2_OF_6 = {
        {2, 1, 1, 0, 0, 2}, {1, 0, 2, 1, 0, 2}, {0, 2, 0, 1}, {0, 2, 1, 2}, {0, 1, 1, 2}, {1, 2, 0, 1}};
    private static final int[][] MENDS_2_OF_6 = {{0, 1}, {1, 2}, {1, 2}, {0, 1}, {0, 1}, {1, 2}};
    private static final int[] IDLE_WHEN_MENDED_3 = {1, 1, 0, 0, 0, 0};
    private static final int[][] MISS_4_OF_24 = {
        {0, 1, 0, 2, 0, 3, 3, 2, 2, 1, 1, 3}, {0, 2, 0, 1, 0, 3, 1, 3, 2, 3}, {0, 3, 0, 1, 0, 2, 1, 2, 2, 3},
        {0, 3, 1, 2, 0, 1, 1, 3, 2, 3}, {0, 2, 1, 2, 1, 3, 0, 1, 2, 3}, {0, 1, 1, 2, 1, 3, 0, 1, 2, 3}};
    private static final int[] IDLE_WHEN_MENDED_4 = {1, 0, 0, 1, 1, 0};

    public static void main(String[] args) {
        outputOfEachWire();
        outputOutOfRange();
        outputForTheInputAsItIs();
        exchangesFromNoneToAll();
        exchangesOfEqualNumbers();
        exchangesForTheInputAsItIs();
        sortsAllOrders();
        sortsMissesAnyOrder();
        sortsNoOrder();
        sortedCountsFromNoneToAll();
        sortedNearlyAll();
        ranksOfEachWire();
        ranksWireOutOfRange();
        ranksNumberOutOfRange();
        ranksBothOutOfRange();
        worksOfEachComparator();
        worksFromNoOrderToAll();
        worksNone();
        belowOfEachPair();
        belowItself();
        belowFirstOutOfRange();
        belowSecondOutOfRange();
        belowBothOutOfRange();
        idleFromNoneToAll();
        idleEachOneAlone();
        idleForAllOrders();
        idleOfAllWires();
        roundsFromNoneToAll();
        roundsWithAWireInCommon();
        roundsLeast();
        roundsEarlierInEarlier();
        end();
    }

    // Promise 8: "The output of wire w", of the first, the last and all between
    private static void outputOfEachWire() {
        for (int n = 2; n <= 7; n++) {
            ComparatorNet none = new ComparatorNet(n);
            inputs(none, downward(n));
            outputs("no comparators on " + n, none, downward(n));
            ComparatorNet x = bubble(n);
            inputs(x, downward(n));
            outputs("sorter of " + n, x, upward(n));
        }
        ComparatorNet x = bubble(7);
        inputs(x, MAX, 0, MIN, MAX - 1, -1, MIN + 1, 1);
        outputs("the ends of int", x, MIN, MIN + 1, -1, 0, 1, MAX - 1, MAX);
    }

    // Promise 8: "0 if w is not 0 to n - 1"
    private static void outputOutOfRange() {
        for (int n = 2; n <= 7; n++) {
            for (int w : outside(0, n - 1)) {
                refused("output(" + w + ")", n, 0, x -> x.output(w), 0);
                refused("output(" + w + ")", n, 24, x -> x.output(w), 0);
            }
            for (int w : inside(0, n - 1)) {
                due("output(" + w + ") of " + n, mixed(n, 0).output(w), mixedInputs(n)[w]);
            }
        }
    }

    // Promise 8: "for the input as it is", also if it was asked before or changed since
    private static void outputForTheInputAsItIs() {
        ComparatorNet x = bubble(4);
        inputs(x, 4, 3, 2, 1);
        for (int again = 0; again < 2; again++) {
            outputs("asked again", x, 1, 2, 3, 4);
        }
        due("exchanges(): the input is not sorted by asking", x.exchanges(), 6);
        due("input(3, 9)", x.input(3, 9), 0);
        outputs("after a change", x, 2, 3, 4, 9);
        due("sorted() between", x.sorted(), 24);
        due("idle() between", x.idle(), 0);
        outputs("after questions about orders", x, 2, 3, 4, 9);
    }

    // Promise 9: "How many comparators exchange", from none of none to all 24
    private static void exchangesFromNoneToAll() {
        for (int n = 2; n <= 7; n++) {
            due("exchanges() of no comparators", mixed(n, 0).exchanges(), 0);
        }
        for (int size = 0; size <= 24; size++) {
            ComparatorNet x = thereAndBack(size);
            inputs(x, 2, 1);
            due("exchanges() of " + size + " there and back, on 2 1", x.exchanges(), size);
            inputs(x, 1, 2);
            due("exchanges() of " + size + " there and back, on 1 2", x.exchanges(), size == 0 ? 0 : size - 1);
        }
        ComparatorNet x = full(2);
        inputs(x, 2, 1);
        due("exchanges() of 24 equal ones", x.exchanges(), 1);
    }

    private static ComparatorNet thereAndBack(int size) {
        ComparatorNet x = new ComparatorNet(2);
        for (int c = 0; c < size; c++) {
            addAll(x, c % 2, 1 - c % 2);
        }
        return x;
    }

    // Promise 9 with "greater": equal numbers do not exchange
    private static void exchangesOfEqualNumbers() {
        for (int v : new int[] {MIN, MIN + 1, -1, 0, 1, MAX - 1, MAX}) {
            ComparatorNet x = mixed(7, 24);
            inputs(x, v, v, v, v, v, v, v);
            due("exchanges() of seven times " + v, x.exchanges(), 0);
            ComparatorNet y = thereAndBack(24);
            inputs(y, v, v);
            due("exchanges() of twice " + v, y.exchanges(), 0);
        }
    }

    // Promise 9: "for the input as it is"
    private static void exchangesForTheInputAsItIs() {
        ComparatorNet x = net(2, 0, 1);
        int[] firsts = {MIN, MAX, 4, 5, 6, -5, 5};
        int[] seconds = {MAX, MIN, 5, 5, 5, 5, -5};
        int[] exchanges = {0, 1, 0, 0, 1, 0, 1};
        for (int t = 0; t < firsts.length; t++) {
            inputs(x, firsts[t], seconds[t]);
            due("exchanges() of " + firsts[t] + " " + seconds[t], x.exchanges(), exchanges[t]);
            due("exchanges() asked again", x.exchanges(), exchanges[t]);
        }
    }

    private static ComparatorNet nearlySorts(int n) {
        return net(n, NEARLY_SORTS[n - 2]);
    }

    private static ComparatorNet mended(int n) {
        ComparatorNet x = nearlySorts(n);
        addAll(x, MENDED_BY[n - 2]);
        return x;
    }

    // Promise 10: "1 if the net sorts all orders, else 0"
    private static void sortsAllOrders() {
        for (int n = 2; n <= 7; n++) {
            due("sorts() of nearly a sorter of " + n, nearlySorts(n).sorts(), 0);
            due("sorts() of the mended one of " + n, mended(n).sorts(), 1);
            ComparatorNet x = mended(n);
            while (x.size() < 24) {
                addAll(x, 0, n - 1);
            }
            due("sorts() of a full one of " + n, x.sorts(), 1);
            due("drop(0)", x.drop(0), 23);
            addAll(x, n - 1, n - 2);
            due("sorts() of a full one of " + n + " that ends the wrong way", x.sorts(), 0);
        }
    }

    // Promise 10: "all orders": whichever orders are missed, the net does not sort
    private static void sortsMissesAnyOrder() {
        missesAnyOrder(3, MISS_2_OF_6, 2);
        missesAnyOrder(4, MISS_4_OF_24, 4);
    }

    private static void missesAnyOrder(int n, int[][] nets, int missed) {
        for (int[] pairs : nets) {
            due("sorts() of a net that misses " + missed, net(n, pairs).sorts(), 0);
            due("sorted() of a net that misses " + missed, net(n, pairs).sorted(), FACTORIAL[n] - missed);
        }
    }

    // Promise 10: "else 0", down to a net that sorts one order or none
    private static void sortsNoOrder() {
        for (int n = 2; n <= 7; n++) {
            due("sorts() of no comparators on " + n, new ComparatorNet(n).sorts(), 0);
            due("sorts() of 1 0 on " + n, net(n, 1, 0).sorts(), 0);
            ComparatorNet x = bubble(n);
            due("turn()", x.turn(), n * (n - 1) / 2);
            due("sorts() of a turned sorter of " + n, x.sorts(), 1);
        }
    }

    // Promise 11: "How many orders the net sorts.", from none to all
    private static void sortedCountsFromNoneToAll() {
        for (int n = 2; n <= 7; n++) {
            due("sorted() of no comparators on " + n, new ComparatorNet(n).sorted(), 1);
            due("sorted() of 1 0 on " + n, net(n, 1, 0).sorted(), 0);
            due("sorted() of the last pair back on " + n, net(n, n - 1, n - 2).sorted(), 0);
            due("sorted() of 0 1 on " + n, net(n, 0, 1).sorted(), 2);
            due("sorted() of the last pair on " + n, net(n, n - 2, n - 1).sorted(), 2);
            due("sorted() of a sorter of " + n, bubble(n).sorted(), FACTORIAL[n]);
        }
    }

    // Promise 11: one step below all
    private static void sortedNearlyAll() {
        for (int n = 2; n <= 7; n++) {
            due("sorted() of nearly a sorter of " + n, nearlySorts(n).sorted(), FACTORIAL[n] - MISSED[n - 2]);
            due("sorted() of the mended one of " + n, mended(n).sorted(), FACTORIAL[n]);
        }
    }

    // Promise 12: "For how many orders wire w has the output r", from none to all, for all wires and numbers
    private static void ranksOfEachWire() {
        for (int n = 2; n <= 7; n++) {
            ComparatorNet none = new ComparatorNet(n);
            ComparatorNet sorter = bubble(n);
            for (int w = 0; w < n; w++) {
                for (int r = 1; r <= n; r++) {
                    String call = "ranks(" + w + ", " + r + ") of " + n;
                    due(call + ", no comparators", none.ranks(w, r), FACTORIAL[n - 1]);
                    due(call + ", sorter", sorter.ranks(w, r), r == w + 1 ? FACTORIAL[n] : 0);
                }
            }
        }
    }

    // Promise 12: "BAD_ARG if w is not 0 to n - 1"
    private static void ranksWireOutOfRange() {
        for (int n = 2; n <= 7; n++) {
            for (int w : outside(0, n - 1)) {
                int most = n;
                refused("ranks(" + w + ", 1)", n, 3, x -> x.ranks(w, 1), BAD_ARG);
                refused("ranks(" + w + ", n)", n, 3, x -> x.ranks(w, most), BAD_ARG);
            }
            for (int w : inside(0, n - 1)) {
                due("ranks(" + w + ", 1) of " + n, mixed(n, 0).ranks(w, 1), FACTORIAL[n - 1]);
            }
        }
    }

    // Promise 12: "BAD_ARG if [...] r not 1 to n"
    private static void ranksNumberOutOfRange() {
        for (int n = 2; n <= 7; n++) {
            for (int r : outside(1, n)) {
                int last = n - 1;
                refused("ranks(0, " + r + ")", n, 3, x -> x.ranks(0, r), BAD_ARG);
                refused("ranks(n - 1, " + r + ")", n, 3, x -> x.ranks(last, r), BAD_ARG);
            }
            for (int r : inside(1, n)) {
                due("ranks(0, " + r + ") of " + n, mixed(n, 0).ranks(0, r), FACTORIAL[n - 1]);
            }
        }
    }

    // Promise 12: both out of range is no other case
    private static void ranksBothOutOfRange() {
        for (int n = 2; n <= 7; n++) {
            for (int w : new int[] {MIN, -1, n, MAX}) {
                for (int r : new int[] {MIN, 0, n + 1, MAX}) {
                    refused("ranks(" + w + ", " + r + ")", n, 3, x -> x.ranks(w, r), BAD_ARG);
                }
            }
        }
    }

    // Promise 13: "comparator k", from the first to the last
    private static void worksOfEachComparator() {
        for (int n = 2; n <= 7; n++) {
            ComparatorNet x = new ComparatorNet(n);
            for (int c = 0; c < 24; c++) {
                addAll(x, c % 2, 1 - c % 2);
            }
            due("works(0) of " + n, x.works(0), FACTORIAL[n] / 2);
            for (int k = 1; k < 24; k++) {
                due("works(" + k + ") of " + n, x.works(k), FACTORIAL[n]);
            }
            due("works(24) of " + n, x.works(24), NONE);
        }
    }

    // Promise 13: "For how many orders", from none to all
    private static void worksFromNoOrderToAll() {
        for (int n = 2; n <= 7; n++) {
            ComparatorNet twins = net(n, 0, n - 1, 0, n - 1);
            due("works(1) of a twin on " + n, twins.works(1), 0);
            ComparatorNet back = net(n, 0, n - 1, n - 1, 0);
            due("works(1) of there and back on " + n, back.works(1), FACTORIAL[n]);
            ComparatorNet last = mended(n);
            due("works(last) of the one that mends on " + n, last.works(last.size() - 1), MISSED[n - 2]);
        }
    }

    // Promise 13: "NONE if there is no comparator k"
    private static void worksNone() {
        for (int n = 2; n <= 7; n++) {
            for (int size : SIZES) {
                for (int k : outside(0, size - 1)) {
                    refused("works(" + k + ")", n, size, x -> x.works(k), NONE);
                }
                for (int k : inside(0, size - 1)) {
                    int works = mixed(n, size).works(k);
                    due("works(" + k + ") of " + size + " is a number of orders", works >= 0 ? 1 : 0, 1);
                }
            }
        }
    }

    // Promise 14: "For how many orders the output of wire v is less than that of wire w", from none to all
    private static void belowOfEachPair() {
        for (int n = 2; n <= 7; n++) {
            ComparatorNet none = new ComparatorNet(n);
            ComparatorNet sorter = bubble(n);
            for (int v = 0; v < n; v++) {
                for (int w = 0; w < n; w++) {
                    String call = "below(" + v + ", " + w + ") of " + n;
                    due(call + ", no comparators", none.below(v, w), v == w ? 0 : FACTORIAL[n] / 2);
                    due(call + ", sorter", sorter.below(v, w), v < w ? FACTORIAL[n] : 0);
                }
            }
            int last = n - 1;
            due("below(last, 0) behind last 0", net(n, last, 0).below(last, 0), FACTORIAL[n]);
            due("below(0, last) behind last 0", net(n, last, 0).below(0, last), 0);
        }
    }

    // Promise 14: "less than": no output is less than itself
    private static void belowItself() {
        for (int n = 2; n <= 7; n++) {
            for (int w = 0; w < n; w++) {
                due("below(" + w + ", " + w + ") of " + n, mixed(n, 5).below(w, w), 0);
            }
        }
    }

    // Promise 14: "BAD_ARG if v or w is not 0 to n - 1", here v
    private static void belowFirstOutOfRange() {
        for (int n = 2; n <= 7; n++) {
            for (int v : outside(0, n - 1)) {
                int last = n - 1;
                refused("below(" + v + ", 0)", n, 3, x -> x.below(v, 0), BAD_ARG);
                refused("below(" + v + ", n - 1)", n, 3, x -> x.below(v, last), BAD_ARG);
            }
            for (int v : inside(0, n - 1)) {
                due("below(" + v + ", other) of " + n, mixed(n, 0).below(v, v == 0 ? 1 : 0), FACTORIAL[n] / 2);
            }
        }
    }

    // Promise 14: "BAD_ARG if v or w is not 0 to n - 1", here w
    private static void belowSecondOutOfRange() {
        for (int n = 2; n <= 7; n++) {
            for (int w : outside(0, n - 1)) {
                int last = n - 1;
                refused("below(0, " + w + ")", n, 3, x -> x.below(0, w), BAD_ARG);
                refused("below(n - 1, " + w + ")", n, 3, x -> x.below(last, w), BAD_ARG);
            }
            for (int w : inside(0, n - 1)) {
                due("below(other, " + w + ") of " + n, mixed(n, 0).below(w == 0 ? 1 : 0, w), FACTORIAL[n] / 2);
            }
        }
    }

    // Promise 14: both out of range is no other case, even if they are equal
    private static void belowBothOutOfRange() {
        for (int n = 2; n <= 7; n++) {
            for (int v : new int[] {MIN, -1, n, MAX}) {
                for (int w : new int[] {MIN, -1, n, MAX}) {
                    refused("below(" + v + ", " + w + ")", n, 3, x -> x.below(v, w), BAD_ARG);
                }
            }
        }
    }

    // Promise 15: "How many comparators could be taken out", from none to all 24
    private static void idleFromNoneToAll() {
        for (int n = 2; n <= 7; n++) {
            due("idle() of no comparators on " + n, new ComparatorNet(n).idle(), 0);
            due("idle() of a sorter of " + n, bubble(n).idle(), 0);
            due("idle() of 24 equal ones on " + n, full(n).idle(), 24);
            ComparatorNet x = full(n);
            due("drop(23)", x.drop(23), 23);
            due("idle() of 23 equal ones on " + n, x.idle(), 23);
            addAll(x, 1, 0);
            due("idle() of 23 equal ones and one back on " + n, x.idle(), 23);
            due("swap(22)", x.swap(22), 0);
            due("idle() of 22 equal ones, one back and one more on " + n, x.idle(), 23);
        }
    }

    // Promise 15: "each one alone": of twins each could go, though not both
    private static void idleEachOneAlone() {
        for (int n = 2; n <= 7; n++) {
            due("idle() of one on " + n, net(n, 0, n - 1).idle(), 0);
            due("idle() of two equal ones on " + n, net(n, 0, n - 1, 0, n - 1).idle(), 2);
            due("idle() of three equal ones on " + n, net(n, 0, n - 1, 0, n - 1, 0, n - 1).idle(), 3);
            due("idle() of there and back on " + n, net(n, 0, n - 1, n - 1, 0).idle(), 1);
        }
        ComparatorNet x = net(3, 0, 1, 0, 1);
        due("idle()", x.idle(), 2);
        due("size(): nothing is taken out by asking", x.size(), 2);
        due("idle() again", x.idle(), 2);
    }

    // Promise 15: "for all orders": a comparator that only few orders need, whichever they are, is not idle
    private static void idleForAllOrders() {
        for (int n = 2; n <= 7; n++) {
            due("idle() of the mended one of " + n, mended(n).idle(), 0);
        }
        for (int t = 0; t < MISS_2_OF_6.length; t++) {
            ComparatorNet x = net(3, MISS_2_OF_6[t]);
            due("idle() of net " + t + " that misses 2", x.idle(), 0);
            addAll(x, MENDS_2_OF_6[t]);
            due("idle() of net " + t + " that missed 2", x.idle(), IDLE_WHEN_MENDED_3[t]);
        }
        for (int t = 0; t < MISS_4_OF_24.length; t++) {
            ComparatorNet x = net(4, MISS_4_OF_24[t]);
            due("idle() of net " + t + " that misses 4", x.idle(), 0);
            addAll(x, 1, 2);
            due("idle() of net " + t + " that missed 4", x.idle(), IDLE_WHEN_MENDED_4[t]);
        }
    }

    // Promise 15: "the outputs of all wires": one that changes two wires only, whichever they are, is not idle
    private static void idleOfAllWires() {
        for (int n = 2; n <= 7; n++) {
            for (int i = 0; i < n; i++) {
                for (int j = 0; j < n; j++) {
                    if (i != j) {
                        due("idle() of " + i + " " + j + " on " + n, net(n, i, j).idle(), 0);
                    }
                }
            }
        }
    }

    // Promise 16: "The least number of rounds", from no round for none to one for each of 24
    private static void roundsFromNoneToAll() {
        for (int n = 2; n <= 7; n++) {
            due("rounds() of none on " + n, new ComparatorNet(n).rounds(), 0);
            due("rounds() of one on " + n, net(n, n - 1, 0).rounds(), 1);
            ComparatorNet x = full(n);
            due("rounds() of 24 equal ones on " + n, x.rounds(), 24);
            due("drop(0)", x.drop(0), 23);
            due("rounds() of 23 equal ones on " + n, x.rounds(), 23);
        }
        ComparatorNet x = new ComparatorNet(7);
        for (int c = 0; c < 24; c++) {
            int low = 2 * (c % 3);
            addAll(x, low, low + 1);
            due("rounds() of " + (c + 1) + ", three a round", x.rounds(), c / 3 + 1);
        }
    }

    // Promise 16: "without two of one round having a wire in common"
    private static void roundsWithAWireInCommon() {
        for (int n = 2; n <= 7; n++) {
            for (int i = 0; i < n; i++) {
                for (int j = 0; j < n; j++) {
                    if (i != j) {
                        roundsOfTwo(n, i, j);
                    }
                }
            }
        }
    }

    private static void roundsOfTwo(int n, int i, int j) {
        for (int k = 0; k < n; k++) {
            for (int l = 0; l < n; l++) {
                if (k != l) {
                    boolean common = i == k || i == l || j == k || j == l;
                    due("rounds() of " + i + " " + j + ", " + k + " " + l, net(n, i, j, k, l).rounds(), common ? 2 : 1);
                }
            }
        }
    }

    // Promise 16: "least": a late comparator goes into an early round that its wires leave free
    private static void roundsLeast() {
        due("rounds(): the last fits in the first", net(4, 0, 1, 0, 1, 0, 1, 2, 3).rounds(), 3);
        due("rounds(): the last fits in the second", net(5, 0, 1, 0, 1, 2, 3, 3, 4).rounds(), 2);
        due("rounds(): the last needs a third", net(5, 0, 1, 0, 1, 2, 3, 1, 4).rounds(), 3);
        due("rounds(): three at once", net(6, 4, 5, 3, 2, 0, 1).rounds(), 1);
        due("rounds(): three at once on 7", net(7, 0, 3, 6, 1, 5, 2).rounds(), 1);
    }

    // Promise 16: "of two that have a wire in common the earlier one is in an earlier round"
    private static void roundsEarlierInEarlier() {
        due("rounds(): 0 1, 1 2, 2 3", net(4, 0, 1, 1, 2, 2, 3).rounds(), 3);
        due("rounds(): 0 1, 2 3, 1 2", net(4, 0, 1, 2, 3, 1, 2).rounds(), 2);
        due("rounds(): 1 2, 0 1, 2 3", net(4, 1, 2, 0, 1, 2, 3).rounds(), 2);
        for (int n = 2; n <= 7; n++) {
            due("rounds() of a sorter of " + n, bubble(n).rounds(), 2 * n - 3);
            ComparatorNet x = bubble(n);
            due("turn()", x.turn(), n * (n - 1) / 2);
            due("rounds() of a turned sorter of " + n, x.rounds(), 2 * n - 3);
        }
        ComparatorNet chain = net(4, 0, 1, 2, 3, 1, 2);
        due("swap(1)", chain.swap(1), 0);
        due("rounds(): 0 1, 1 2, 2 3 after swap", chain.rounds(), 3);
        due("drop(1)", chain.drop(1), 2);
        due("rounds(): 0 1, 2 3 after drop", chain.rounds(), 1);
    }
}
