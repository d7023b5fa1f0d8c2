/**
 * The boundary cases that promises 1 to 7 name: the constructor and the calls that change an object.
 * Each sentence has a method of its own, with the sentence above it.
 */
public final class BoundaryChangesTest extends Checks {
    private static final int[] SIZES = {0, 1, 2, 3, 12, 22, 23, 24};

    public static void main(String[] args) {
        below2Becomes2();
        above7Becomes7();
        between2And7Stays();
        newNetIsEmpty();
        newInputIsZero();
        addAtTheEnd();
        addFirstWireOutOfRange();
        addSecondWireOutOfRange();
        addBothWiresOutOfRange();
        addEqualWires();
        addFull();
        addTestsArgumentsFirst();
        addAnswersTheNumber();
        dropTakesOut();
        dropNone();
        dropAnswersWhatIsLeft();
        swapExchanges();
        swapNone();
        swapDoesNotWrapAround();
        turnEveryComparator();
        turnEveryPair();
        turnAnswersTheNumber();
        sizeFromEmptyToFull();
        sizeAfterRefusedCalls();
        inputBecomesAnyNumber();
        inputOfEachWire();
        inputOutOfRange();
        end();
    }

    /** All that shows the number of wires shows this one. */
    private static void hasWires(int asked, int n) {
        String name = "new ComparatorNet(" + asked + ").";
        due(name + "input(0..)", wires(new ComparatorNet(asked)), n);
        ComparatorNet x = new ComparatorNet(asked);
        due(name + "input(n - 1, 9)", x.input(n - 1, 9), 0);
        due(name + "output(n - 1)", x.output(n - 1), 9);
        due(name + "output(n)", x.output(n), 0);
        due(name + "ranks(n - 1, n)", x.ranks(n - 1, n), FACTORIAL[n - 1]);
        due(name + "ranks(n, n)", x.ranks(n, n), BAD_ARG);
        due(name + "ranks(n - 1, n + 1)", x.ranks(n - 1, n + 1), BAD_ARG);
        due(name + "below(n - 1, 0)", x.below(n - 1, 0), FACTORIAL[n] / 2);
        due(name + "below(n, 0)", x.below(n, 0), BAD_ARG);
        due(name + "add(0, n)", x.add(0, n), BAD_ARG);
        due(name + "add(0, n - 1)", x.add(0, n - 1), 1);
        due(name + "works(0)", x.works(0), FACTORIAL[n] / 2);
    }

    // Promise 1: "below 2 becomes 2"
    private static void below2Becomes2() {
        for (int asked : new int[] {MIN, MIN + 1, MIN + 5, -65536, -256, -7, -5, -2, -1, 0, 1}) {
            hasWires(asked, 2);
        }
        hasWires(2, 2);
        hasWires(3, 3);
    }

    // Promise 1: "above 7 becomes 7"
    private static void above7Becomes7() {
        for (int asked : new int[] {8, 9, 15, 16, 24, 100, 256, 259, 65536, 65539, MAX - 1, MAX}) {
            hasWires(asked, 7);
        }
        hasWires(7, 7);
        hasWires(6, 6);
    }

    // Promise 1: "n is wires, clamped into 2 to 7"
    private static void between2And7Stays() {
        for (int asked = 2; asked <= 7; asked++) {
            hasWires(asked, asked);
        }
    }

    // Promise 1: "the net has no comparators"
    private static void newNetIsEmpty() {
        for (int asked : new int[] {MIN, 1, 2, 3, 6, 7, 8, MAX}) {
            ComparatorNet x = new ComparatorNet(asked);
            due("size() of a new object", x.size(), 0);
            due("rounds() of a new object", x.rounds(), 0);
            due("idle() of a new object", x.idle(), 0);
            due("works(0) of a new object", x.works(0), NONE);
            due("sorted() of a new object", x.sorted(), 1);
            due("swap(0) of a new object", x.swap(0), NONE);
            due("drop(0) of a new object", x.drop(0), NONE);
            due("turn() of a new object", x.turn(), 0);
            due("the first add", x.add(0, 1), 1);
        }
    }

    // Promise 1: "0 is on all wires as input"
    private static void newInputIsZero() {
        for (int n = 2; n <= 7; n++) {
            ComparatorNet x = new ComparatorNet(n);
            outputs("new object", x, new int[n]);
            due("exchanges() of a new object", x.exchanges(), 0);
            ComparatorNet y = bubble(n);
            outputs("new object with a net", y, new int[n]);
            due("exchanges() of zeros", y.exchanges(), 0);
            due("input(0, 1)", y.input(0, 1), 0);
            due("exchanges() of a one in front of zeros", y.exchanges(), n - 1);
        }
    }

    // Promise 2: "Puts comparator i j at the end of the net."
    private static void addAtTheEnd() {
        for (int n = 2; n <= 7; n++) {
            for (int size : new int[] {0, 1, 2, 22, 23}) {
                addAtTheEnd(n, size, 0, n - 1);
                addAtTheEnd(n, size, n - 1, 0);
            }
        }
    }

    private static void addAtTheEnd(int n, int size, int i, int j) {
        int[] pairs = mixedPairs(n, size + 1);
        pairs[2 * size] = i;
        pairs[2 * size + 1] = j;
        changed("add(" + i + ", " + j + ")", n, size, x -> x.add(i, j), size + 1, pairs, mixedInputs(n));
    }

    // Promise 2: "i or j not 0 to n - 1 [...] answers BAD_ARG", here i
    private static void addFirstWireOutOfRange() {
        for (int n = 2; n <= 7; n++) {
            for (int i : outside(0, n - 1)) {
                int last = n - 1;
                refused("add(" + i + ", 0)", n, 2, x -> x.add(i, 0), BAD_ARG);
                refused("add(" + i + ", n - 1)", n, 2, x -> x.add(i, last), BAD_ARG);
            }
            for (int i : inside(0, n - 1)) {
                due("add(" + i + ", other) of " + n, mixed(n, 2).add(i, i == 0 ? 1 : 0), 3);
            }
        }
    }

    // Promise 2: "i or j not 0 to n - 1 [...] answers BAD_ARG", here j
    private static void addSecondWireOutOfRange() {
        for (int n = 2; n <= 7; n++) {
            for (int j : outside(0, n - 1)) {
                int last = n - 1;
                refused("add(0, " + j + ")", n, 2, x -> x.add(0, j), BAD_ARG);
                refused("add(n - 1, " + j + ")", n, 2, x -> x.add(last, j), BAD_ARG);
            }
            for (int j : inside(0, n - 1)) {
                due("add(other, " + j + ") of " + n, mixed(n, 2).add(j == 0 ? 1 : 0, j), 3);
            }
        }
    }

    // Promise 2: "i or j not 0 to n - 1": both is no other case
    private static void addBothWiresOutOfRange() {
        for (int n = 2; n <= 7; n++) {
            for (int i : new int[] {MIN, -1, n, MAX}) {
                for (int j : new int[] {MIN, -1, n, MAX}) {
                    refused("add(" + i + ", " + j + ")", n, 2, x -> x.add(i, j), BAD_ARG);
                }
            }
        }
    }

    // Promise 2: "or i = j, answers BAD_ARG"
    private static void addEqualWires() {
        for (int n = 2; n <= 7; n++) {
            for (int i = 0; i < n; i++) {
                int wire = i;
                refused("add(" + i + ", " + i + ")", n, 0, x -> x.add(wire, wire), BAD_ARG);
                refused("add(" + i + ", " + i + ")", n, 23, x -> x.add(wire, wire), BAD_ARG);
            }
            for (int i = 0; i < n - 1; i++) {
                due("add of one wire and the next", new ComparatorNet(n).add(i, i + 1), 1);
                due("add of one wire and the one before", new ComparatorNet(n).add(i + 1, i), 1);
            }
        }
    }

    // Promise 2: "FULL", "There are 24 comparators."
    private static void addFull() {
        for (int n = 2; n <= 7; n++) {
            int last = n - 1;
            due("add at 22", mixed(n, 22).add(0, last), 23);
            due("add at 23", mixed(n, 23).add(0, last), 24);
            refused("add(0, n - 1)", n, 24, x -> x.add(0, last), FULL);
            refused("add(n - 1, 0)", n, 24, x -> x.add(last, 0), FULL);
            ComparatorNet x = mixed(n, 24);
            due("drop(23) at 24", x.drop(23), 23);
            due("add after drop", x.add(0, last), 24);
            due("add at 24 again", x.add(0, last), FULL);
        }
    }

    // Promise 2: "Tested in this order": a full net still answers BAD_ARG to what is out of range
    private static void addTestsArgumentsFirst() {
        for (int n = 2; n <= 7; n++) {
            for (int bad : outside(0, n - 1)) {
                refused("add(" + bad + ", 0)", n, 24, x -> x.add(bad, 0), BAD_ARG);
                refused("add(0, " + bad + ")", n, 24, x -> x.add(0, bad), BAD_ARG);
                refused("add(" + bad + ", " + bad + ")", n, 24, x -> x.add(bad, bad), BAD_ARG);
            }
            for (int i : inside(0, n - 1)) {
                refused("add(" + i + ", " + i + ")", n, 24, x -> x.add(i, i), BAD_ARG);
                refused("add(" + i + ", " + i + ")", n, 23, x -> x.add(i, i), BAD_ARG);
                refused("add(" + i + ", other)", n, 24, x -> x.add(i, i == 0 ? 1 : 0), FULL);
                due("add(" + i + ", other) at 23", mixed(n, 23).add(i, i == 0 ? 1 : 0), 24);
            }
        }
    }

    // Promise 2: "Otherwise the number of comparators."
    private static void addAnswersTheNumber() {
        for (int n = 2; n <= 7; n++) {
            ComparatorNet x = new ComparatorNet(n);
            for (int c = 1; c <= 24; c++) {
                due("add as number " + c, x.add(c % 2, 1 - c % 2), c);
            }
            due("add as number 25", x.add(0, 1), FULL);
        }
    }

    // Promise 3: "Takes comparator k (0 the first) out of the net"
    private static void dropTakesOut() {
        for (int n = 2; n <= 7; n++) {
            for (int size : new int[] {1, 2, 3, 23, 24}) {
                for (int k : inside(0, size - 1)) {
                    dropTakesOut(n, size, k);
                }
            }
        }
    }

    private static void dropTakesOut(int n, int size, int k) {
        int[] pairs = mixedPairs(n, size);
        int[] rest = new int[2 * size - 2];
        System.arraycopy(pairs, 0, rest, 0, 2 * k);
        System.arraycopy(pairs, 2 * k + 2, rest, 2 * k, rest.length - 2 * k);
        changed("drop(" + k + ")", n, size, x -> x.drop(k), size - 1, rest, mixedInputs(n));
    }

    // Promise 3: "NONE if there is none"
    private static void dropNone() {
        for (int n : new int[] {2, 3, 7}) {
            for (int size : SIZES) {
                for (int k : outside(0, size - 1)) {
                    refused("drop(" + k + ")", n, size, x -> x.drop(k), NONE);
                }
                for (int k : inside(0, size - 1)) {
                    due("drop(" + k + ") of " + size, mixed(n, size).drop(k), size - 1);
                }
            }
        }
    }

    // Promise 3: "Otherwise how many are left."
    private static void dropAnswersWhatIsLeft() {
        ComparatorNet fromFront = mixed(3, 24);
        ComparatorNet fromEnd = mixed(3, 24);
        for (int left = 23; left >= 0; left--) {
            due("drop(0), to " + left, fromFront.drop(0), left);
            due("drop(left), to " + left, fromEnd.drop(left), left);
        }
        due("drop(0) of none", fromFront.drop(0), NONE);
        due("drop(0) of none", fromEnd.drop(0), NONE);
        due("add after all are dropped", fromFront.add(0, 1), 1);
    }

    // Promise 4: "Exchanges comparators k and k + 1", "Otherwise 0."
    private static void swapExchanges() {
        for (int n = 2; n <= 7; n++) {
            for (int size : new int[] {2, 3, 23, 24}) {
                for (int k : inside(0, size - 2)) {
                    swapExchanges(n, size, k);
                }
            }
        }
    }

    private static void swapExchanges(int n, int size, int k) {
        int[] pairs = mixedPairs(n, size);
        int[] swapped = pairs.clone();
        System.arraycopy(pairs, 2 * k, swapped, 2 * k + 2, 2);
        System.arraycopy(pairs, 2 * k + 2, swapped, 2 * k, 2);
        changed("swap(" + k + ")", n, size, x -> x.swap(k), 0, swapped, mixedInputs(n));
    }

    // Promise 4: "NONE if there are no two such ones"
    private static void swapNone() {
        for (int n : new int[] {2, 3, 7}) {
            for (int size : SIZES) {
                for (int k : outside(0, size - 2)) {
                    refused("swap(" + k + ")", n, size, x -> x.swap(k), NONE);
                }
                for (int k : inside(0, size - 2)) {
                    due("swap(" + k + ") of " + size, mixed(n, size).swap(k), 0);
                }
            }
        }
    }

    // Promise 4, where k + 1 is another number than it seems: -1 + 1 is the first, the greatest int + 1 the least
    private static void swapDoesNotWrapAround() {
        for (int size : SIZES) {
            refused("swap(-1)", 4, size, x -> x.swap(-1), NONE);
            refused("swap(MAX)", 4, size, x -> x.swap(MAX), NONE);
            refused("swap(MAX - 1)", 4, size, x -> x.swap(MAX - 1), NONE);
            refused("swap(MIN)", 4, size, x -> x.swap(MIN), NONE);
        }
    }

    // Promise 5: "Every comparator [...] becomes", from none to the 24th
    private static void turnEveryComparator() {
        for (int n = 2; n <= 7; n++) {
            for (int size : SIZES) {
                turnEveryComparator(n, size);
            }
        }
    }

    private static void turnEveryComparator(int n, int size) {
        int[] pairs = mixedPairs(n, size);
        int[] turned = new int[2 * size];
        for (int p = 0; p < 2 * size; p += 2) {
            turned[p] = n - 1 - pairs[p + 1];
            turned[p + 1] = n - 1 - pairs[p];
        }
        changed("turn()", n, size, x -> x.turn(), size, turned, mixedInputs(n));
    }

    // Promise 5: "comparator i j becomes n - 1 - j, n - 1 - i", for the first and the last wire and all between
    private static void turnEveryPair() {
        for (int n = 2; n <= 7; n++) {
            for (int i = 0; i < n; i++) {
                for (int j = 0; j < n; j++) {
                    if (i != j) {
                        turnPair(n, i, j);
                    }
                }
            }
        }
    }

    private static void turnPair(int n, int i, int j) {
        same("after turn() of " + i + " " + j, state(() -> {
            ComparatorNet x = net(n, i, j);
            due("turn() of " + i + " " + j, x.turn(), 1);
            return x;
        }), stateOf(n, new int[] {n - 1 - j, n - 1 - i}, new int[n]));
    }

    // Promise 5: "Answers the number of comparators."
    private static void turnAnswersTheNumber() {
        for (int n = 2; n <= 7; n++) {
            for (int size = 0; size <= 24; size++) {
                due("turn() of " + size, mixed(n, size).turn(), size);
            }
        }
    }

    // Promise 6: "The number of comparators.", from 0 to 24 and back
    private static void sizeFromEmptyToFull() {
        ComparatorNet x = new ComparatorNet(3);
        for (int size = 0; size < 24; size++) {
            due("size() at " + size, x.size(), size);
            due("add at " + size, x.add(0, 2), size + 1);
        }
        for (int size = 24; size > 0; size--) {
            due("size() at " + size, x.size(), size);
            due("drop(0) at " + size, x.drop(0), size - 1);
        }
        due("size() after all drops", x.size(), 0);
    }

    // Promise 6: no refused call counts
    private static void sizeAfterRefusedCalls() {
        for (int size : SIZES) {
            ComparatorNet x = mixed(5, size);
            due("add(5, 0)", x.add(5, 0), BAD_ARG);
            due("add(0, -1)", x.add(0, -1), BAD_ARG);
            due("add(3, 3)", x.add(3, 3), BAD_ARG);
            due("drop(size)", x.drop(size), NONE);
            due("drop(-1)", x.drop(-1), NONE);
            due("swap(size - 1)", x.swap(size - 1), NONE);
            due("size() after refused calls", x.size(), size);
        }
        ComparatorNet x = mixed(5, 24);
        due("add(0, 1) at 24", x.add(0, 1), FULL);
        due("size() after FULL", x.size(), 24);
    }

    // Promise 7: "The number on wire w as input becomes v.", for the least, the greatest and any other v
    private static void inputBecomesAnyNumber() {
        for (int v : new int[] {MIN, MIN + 1, -65537, -256, -4, -2, -1, 0, 1, 7, 8, 255, 65536, MAX - 1, MAX}) {
            for (int w = 0; w < 7; w++) {
                ComparatorNet x = mixed(7, 0);
                due("input(" + w + ", " + v + ")", x.input(w, v), 0);
                int[] row = mixedInputs(7);
                row[w] = v;
                outputs("after input(" + w + ", " + v + ")", x, row);
            }
        }
    }

    // Promise 7: "wire w", the first, the last and those one step inside
    private static void inputOfEachWire() {
        for (int n = 2; n <= 7; n++) {
            for (int w : inside(0, n - 1)) {
                inputOfEachWire(n, w);
            }
        }
    }

    private static void inputOfEachWire(int n, int w) {
        int[] row = mixedInputs(n);
        row[w] = 55;
        changed("input(" + w + ", 55)", n, 3, x -> x.input(w, 55), 0, mixedPairs(n, 3), row);
    }

    // Promise 7: "BAD_ARG if w is not 0 to n - 1"
    private static void inputOutOfRange() {
        for (int n = 2; n <= 7; n++) {
            for (int w : outside(0, n - 1)) {
                refused("input(" + w + ", 77)", n, 3, x -> x.input(w, 77), BAD_ARG);
                refused("input(" + w + ", 0)", n, 0, x -> x.input(w, 0), BAD_ARG);
            }
            for (int w : inside(0, n - 1)) {
                due("input(" + w + ", 77) of " + n, mixed(n, 3).input(w, 77), 0);
            }
        }
    }
}
