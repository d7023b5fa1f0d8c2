import java.util.List;
import java.util.function.ToIntFunction;

/**
 * The boundary cases that the document names before its promises, in "What it is", "Terms" and the
 * constants. Each sentence has a method of its own, with the sentence above it.
 */
public final class BoundaryTermsTest extends Checks {
    private static final int LAST_CALL = 512;

    public static void main(String[] args) {
        usedFor512Calls();
        wires2To7();
        wires0ToLast();
        atMost24Comparators();
        differentWires();
        smallerOnFirstWire();
        inOrder();
        exchangesIfGreater();
        allOrders();
        sortsAnOrder();
        neverThrows();
        refusedChangesNothing();
        constants();
        end();
    }

    // "An object is used for at most 512 calls after it has been made; what later calls answer is free."
    private static void usedFor512Calls() {
        List<ToIntFunction<ComparatorNet>> calls = List.of(
                x -> x.add(1, 2), x -> x.add(4, 0), x -> x.drop(5), x -> x.drop(6), x -> x.swap(4), x -> x.swap(5),
                x -> x.turn(), x -> x.size(), x -> x.input(3, 8), x -> x.input(4, 8), x -> x.output(3),
                x -> x.exchanges(), x -> x.sorts(), x -> x.sorted(), x -> x.ranks(3, 4), x -> x.ranks(3, 5),
                x -> x.works(5), x -> x.works(6), x -> x.below(0, 3), x -> x.below(0, 4), x -> x.idle(),
                x -> x.rounds());
        for (int call = 0; call < calls.size(); call++) {
            for (int at = LAST_CALL - 1; at <= LAST_CALL; at++) {
                due("call " + at + " of 512, by number " + call,
                        calls.get(call).applyAsInt(usedBefore(at)), calls.get(call).applyAsInt(usedBefore(100)));
            }
            // The answer is free, but it ends.
            calls.get(call).applyAsInt(usedBefore(LAST_CALL + 1));
        }
    }

    /** Always in the same state, with one call less behind it than the number. */
    private static ComparatorNet usedBefore(int call) {
        ComparatorNet x = new ComparatorNet(4);
        for (int used = 0; used < call - 1 - 10; used++) {
            x.input(used % 4, used);
        }
        for (int c = 0; c < 6; c++) {
            x.add(c % 4, (c + 1) % 4);
        }
        for (int w = 0; w < 4; w++) {
            x.input(w, 5 - 3 * w);
        }
        return x;
    }

    // "There are n WIRES (2 to 7)"
    private static void wires2To7() {
        for (int n = 2; n <= 7; n++) {
            due("wires of new ComparatorNet(" + n + ")", wires(new ComparatorNet(n)), n);
        }
        due("wires of new ComparatorNet(1)", wires(new ComparatorNet(1)), 2);
        due("wires of new ComparatorNet(8)", wires(new ComparatorNet(8)), 7);
    }

    // "WIRES (2 to 7), 0 to n - 1": all calls that name a wire have the same ones.
    private static void wires0ToLast() {
        for (int n = 2; n <= 7; n++) {
            for (int w : inside(0, n - 1)) {
                ComparatorNet x = net(n, w, (w + 1) % n);
                due("input(" + w + ", 3) of " + n, x.input(w, 3), 0);
                due("input(other, 3) of " + n, x.input((w + 1) % n, 3), 0);
                due("output(" + w + ") of " + n, x.output(w), 3);
                due("below(" + w + ", other) of " + n, x.below(w, (w + 1) % n), FACTORIAL[n]);
                due("ranks(" + w + ", n) of " + n, x.ranks(w, n), 0);
            }
            for (int w : outside(0, n - 1)) {
                ComparatorNet x = mixed(n, 3);
                due("add(" + w + ", 0) of " + n, x.add(w, 0), BAD_ARG);
                due("input(" + w + ", 3) of " + n, x.input(w, 3), BAD_ARG);
                due("output(" + w + ") of " + n, x.output(w), 0);
                due("below(" + w + ", 0) of " + n, x.below(w, 0), BAD_ARG);
                due("ranks(" + w + ", 1) of " + n, x.ranks(w, 1), BAD_ARG);
            }
        }
    }

    // "a NET, a row of at most 24 COMPARATORS"
    private static void atMost24Comparators() {
        for (int n = 2; n <= 7; n++) {
            ComparatorNet x = mixed(n, MOST - 1);
            due("size() one below 24", x.size(), 23);
            due("add as the 24th", x.add(n - 1, 0), 24);
            due("add as the 25th", x.add(n - 1, 0), FULL);
            due("size() at 24", x.size(), 24);
            due("drop(0) at 24", x.drop(0), 23);
            due("add as the 24th again", x.add(0, n - 1), 24);
            due("add as the 25th again", x.add(0, n - 1), FULL);
        }
    }

    // "A comparator i j (i and j different wires)"
    private static void differentWires() {
        for (int n = 2; n <= 7; n++) {
            for (int i = 0; i < n; i++) {
                for (int j = 0; j < n; j++) {
                    due("add(" + i + ", " + j + ") of " + n, new ComparatorNet(n).add(i, j), i == j ? BAD_ARG : 1);
                }
            }
        }
    }

    // "the smaller one goes on on wire i, the greater one on wire j"
    private static void smallerOnFirstWire() {
        int[] rising = {MIN, MIN + 1, -65536, -1, 0, 1, 65536, MAX - 1, MAX};
        for (int a = 0; a < rising.length; a++) {
            for (int b = a; b < rising.length; b++) {
                smallerOnFirstWire(rising[a], rising[b]);
                smallerOnFirstWire(rising[b], rising[a]);
            }
        }
    }

    private static void smallerOnFirstWire(int first, int second) {
        int smaller = first < second ? first : second;
        int greater = first < second ? second : first;
        ComparatorNet x = net(2, 0, 1);
        inputs(x, first, second);
        outputs("0 1 on " + first + " " + second, x, smaller, greater);
        ComparatorNet y = net(2, 1, 0);
        inputs(y, first, second);
        outputs("1 0 on " + first + " " + second, y, greater, smaller);
    }

    // "The numbers go through the comparators in order; what is on a wire behind the last one is its OUTPUT."
    private static void inOrder() {
        ComparatorNet none = new ComparatorNet(3);
        inputs(none, 3, 2, 1);
        outputs("no comparators", none, 3, 2, 1);
        ComparatorNet x = net(3, 0, 1, 1, 2);
        inputs(x, 3, 2, 1);
        outputs("0 1, 1 2", x, 2, 1, 3);
        ComparatorNet y = net(3, 1, 2, 0, 1);
        inputs(y, 3, 2, 1);
        outputs("1 2, 0 1", y, 1, 3, 2);
        ComparatorNet z = full(3);
        due("drop(23)", z.drop(23), 23);
        addAll(z, 2, 1);
        inputs(z, 3, 2, 1);
        outputs("the 24th behind 23", z, 2, 3, 1);
    }

    // "A comparator EXCHANGES if the number that came in on wire i is greater than that on wire j."
    private static void exchangesIfGreater() {
        for (int number : new int[] {MIN + 1, -1, 0, 1, 7, MAX - 1}) {
            exchangesIfGreater(number - 1, number, 0);
            exchangesIfGreater(number, number, 0);
            exchangesIfGreater(number + 1, number, 1);
        }
        exchangesIfGreater(MIN, MAX, 0);
        exchangesIfGreater(MIN, MIN, 0);
        exchangesIfGreater(MAX, MAX, 0);
        exchangesIfGreater(MAX, MIN, 1);
    }

    private static void exchangesIfGreater(int first, int second, int exchanges) {
        ComparatorNet x = net(2, 0, 1);
        inputs(x, first, second);
        due("exchanges() of 0 1 on " + first + " " + second, x.exchanges(), exchanges);
        ComparatorNet y = net(3, 2, 1);
        inputs(y, 9, second, first);
        due("exchanges() of 2 1 on 9 " + second + " " + first, y.exchanges(), exchanges);
    }

    // "An ORDER is one of the n! ways to put the numbers 1 to n on the wires, each on one."
    private static void allOrders() {
        for (int n = 2; n <= 7; n++) {
            ComparatorNet x = new ComparatorNet(n);
            for (int w = 0; w < n; w++) {
                for (int r = 1; r <= n; r++) {
                    due("ranks(" + w + ", " + r + ") of " + n + " wires", x.ranks(w, r), FACTORIAL[n - 1]);
                }
            }
            due("ranks(0, 0) of " + n + " wires", x.ranks(0, 0), BAD_ARG);
            due("ranks(0, n + 1) of " + n + " wires", x.ranks(0, n + 1), BAD_ARG);
            due("sorted() of a sorter of " + n, bubble(n).sorted(), FACTORIAL[n]);
        }
    }

    // "The net SORTS an order if wire w has the output w + 1 for all w."
    private static void sortsAnOrder() {
        for (int n = 3; n <= 7; n++) {
            for (int w = 0; w < n - 1; w++) {
                ComparatorNet x = bubble(n);
                addAll(x, w + 1, w);
                due("sorted() with wires " + w + " and " + (w + 1) + " of " + n + " the wrong way", x.sorted(), 0);
            }
            ComparatorNet x = bubble(n);
            addAll(x, n - 1, 0);
            due("sorted() with the first and the last of " + n + " the wrong way", x.sorted(), 0);
        }
    }

    // "No call ever throws."
    private static void neverThrows() {
        int[] numbers = {MIN, MIN + 1, -65536, -25, -24, -8, -7, -2, -1, 0, 1, 2, 3, 4, 5, 6, 7, 8, 9, 22, 23, 24, 25,
            31, 32, 255, 256, 65536, MAX - 1, MAX};
        for (int wires : new int[] {MIN, 1, 2, 3, 4, 5, 6, 7, MAX}) {
            for (int size : new int[] {0, 1, 2, 23, 24}) {
                for (int a : numbers) {
                    callEverything(wires, size, a, numbers);
                }
            }
        }
    }

    private static void callEverything(int wires, int size, int a, int[] numbers) {
        ComparatorNet x = new ComparatorNet(wires);
        for (int c = 0; c < size; c++) {
            x.add(c % 2, 1 - c % 2);
        }
        try {
            for (int b : numbers) {
                x.add(a, b);
                x.input(a, b);
                x.ranks(a, b);
                x.below(a, b);
            }
            x.output(a);
            x.works(a);
            x.swap(a);
            x.drop(a);
            x.turn();
            x.size();
            x.exchanges();
            x.sorts();
            x.sorted();
            x.idle();
            x.rounds();
        } catch (RuntimeException e) {
            same("calls with " + a + " on " + wires + " wires, " + size + " comparators", e.toString(), "no exception");
        }
    }

    // "A refused call answers the code named and changes nothing."
    private static void refusedChangesNothing() {
        for (int n = 2; n <= 7; n++) {
            for (int size : new int[] {0, 1, 2, 23, 24}) {
                refusedChangesNothing(n, size);
            }
            refused("add(0, 1)", n, 24, x -> x.add(0, 1), FULL);
            answersChanged("all refused calls of " + n + " wires", n, 24, BoundaryTermsTest::refuseAll,
                    mixedPairs(n, 24), mixedInputs(n));
        }
    }

    private static void refusedChangesNothing(int n, int size) {
        refused("add(n, 0)", n, size, x -> x.add(n, 0), BAD_ARG);
        refused("add(0, -1)", n, size, x -> x.add(0, -1), BAD_ARG);
        refused("add(1, 1)", n, size, x -> x.add(1, 1), BAD_ARG);
        refused("drop(size)", n, size, x -> x.drop(size), NONE);
        refused("drop(-1)", n, size, x -> x.drop(-1), NONE);
        refused("swap(size - 1)", n, size, x -> x.swap(size - 1), NONE);
        refused("swap(-1)", n, size, x -> x.swap(-1), NONE);
        refused("input(n, 77)", n, size, x -> x.input(n, 77), BAD_ARG);
        refused("input(-1, 77)", n, size, x -> x.input(-1, 77), BAD_ARG);
        refused("output(n)", n, size, x -> x.output(n), 0);
        refused("ranks(n, 1)", n, size, x -> x.ranks(n, 1), BAD_ARG);
        refused("ranks(0, 0)", n, size, x -> x.ranks(0, 0), BAD_ARG);
        refused("works(size)", n, size, x -> x.works(size), NONE);
        refused("below(0, n)", n, size, x -> x.below(0, n), BAD_ARG);
    }

    private static int refuseAll(ComparatorNet x) {
        return x.add(0, 1) + x.add(7, 0) + x.add(0, -1) + x.add(1, 1) + x.drop(24) + x.drop(-1) + x.swap(23)
                + x.swap(-1) + x.input(7, 77) + x.input(-1, 77) + x.output(7) + x.ranks(7, 1) + x.ranks(0, 0)
                + x.works(24) + x.below(0, 7);
    }

    // "The constants: BAD_ARG = -1", "FULL = -2", "NONE = -4"
    private static void constants() {
        due("BAD_ARG", ComparatorNet.BAD_ARG, -1);
        due("FULL", ComparatorNet.FULL, -2);
        due("NONE", ComparatorNet.NONE, -4);
    }
}
