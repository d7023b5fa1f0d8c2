/** Nets of comparators on a few wires, and what they do to all orders of numbers. */
public final class ComparatorNet {
    public static final int BAD_ARG = -1;
    public static final int FULL = -2;
    public static final int NONE = -4;

    private static final int MIN_WIRES = 2;
    private static final int MAX_WIRES = 7;
    private static final int MAX_COMPARATORS = 24;

    private final int wireCount;
    private final int orderCount;
    private int count = 0;

    private final int[] lowWire = new int[MAX_COMPARATORS];
    private final int[] highWire = new int[MAX_COMPARATORS];
    private final int[] inputs = new int[MAX_WIRES];

    // Scratch rows: filled anew by each call that reads them, since methods may not make arrays.
    private final int[] numbers = new int[MAX_WIRES];
    private final int[] otherNumbers = new int[MAX_WIRES];
    private final int[] lastRound = new int[MAX_WIRES];

    public ComparatorNet(int wires) {
        int clamped = wires;
        if (clamped < MIN_WIRES) {
            clamped = MIN_WIRES;
        }
        if (clamped > MAX_WIRES) {
            clamped = MAX_WIRES;
        }
        wireCount = clamped;
        orderCount = factorial(clamped);
    }

    public int add(int i, int j) {
        if (!isWire(i) || !isWire(j) || i == j) {
            return BAD_ARG;
        }
        if (count >= MAX_COMPARATORS) {
            return FULL;
        }
        lowWire[count] = i;
        highWire[count] = j;
        count++;
        return count;
    }

    public int drop(int k) {
        if (!isComparator(k)) {
            return NONE;
        }
        for (int c = k; c < count - 1; c++) {
            lowWire[c] = lowWire[c + 1];
            highWire[c] = highWire[c + 1];
        }
        count--;
        return count;
    }

    public int swap(int k) {
        // k + 1 is not computed before k is known to be small: it could wrap around.
        if (k < 0 || k >= count - 1) {
            return NONE;
        }
        int low = lowWire[k];
        int high = highWire[k];
        lowWire[k] = lowWire[k + 1];
        highWire[k] = highWire[k + 1];
        lowWire[k + 1] = low;
        highWire[k + 1] = high;
        return 0;
    }

    public int turn() {
        for (int c = 0; c < count; c++) {
            int low = lowWire[c];
            lowWire[c] = wireCount - 1 - highWire[c];
            highWire[c] = wireCount - 1 - low;
        }
        return count;
    }

    public int size() {
        return count;
    }

    public int input(int w, int v) {
        if (!isWire(w)) {
            return BAD_ARG;
        }
        inputs[w] = v;
        return 0;
    }

    public int output(int w) {
        if (!isWire(w)) {
            return 0;
        }
        copyRow(inputs, numbers);
        runThrough(numbers, 0, count);
        return numbers[w];
    }

    public int exchanges() {
        copyRow(inputs, numbers);
        return runThrough(numbers, 0, count);
    }

    public int sorts() {
        int done = sorted();
        return done == orderCount ? 1 : 0;
    }

    public int sorted() {
        int found = 0;
        for (int p = 0; p < orderCount; p++) {
            runOrder(p);
            if (isSortedRow(numbers)) {
                found++;
            }
        }
        return found;
    }

    public int ranks(int w, int r) {
        if (!isWire(w) || r < 1 || r > wireCount) {
            return BAD_ARG;
        }
        int found = 0;
        for (int p = 0; p < orderCount; p++) {
            runOrder(p);
            if (numbers[w] == r) {
                found++;
            }
        }
        return found;
    }

    public int works(int k) {
        if (!isComparator(k)) {
            return NONE;
        }
        int found = 0;
        for (int p = 0; p < orderCount; p++) {
            putOrder(p);
            runThrough(numbers, 0, k);
            found += runThrough(numbers, k, k + 1);
        }
        return found;
    }

    public int below(int v, int w) {
        if (!isWire(v) || !isWire(w)) {
            return BAD_ARG;
        }
        int found = 0;
        for (int p = 0; p < orderCount; p++) {
            runOrder(p);
            if (numbers[v] < numbers[w]) {
                found++;
            }
        }
        return found;
    }

    public int idle() {
        int found = 0;
        for (int c = 0; c < count; c++) {
            if (canBeTakenOut(c)) {
                found++;
            }
        }
        return found;
    }

    public int rounds() {
        for (int w = 0; w < wireCount; w++) {
            lastRound[w] = 0;
        }
        int most = 0;
        // The earliest round that its wires leave free is the best for each comparator,
        // as a later one could only push others back.
        for (int c = 0; c < count; c++) {
            int low = lowWire[c];
            int high = highWire[c];
            int round = 1 + greater(lastRound[low], lastRound[high]);
            lastRound[low] = round;
            lastRound[high] = round;
            most = greater(most, round);
        }
        return most;
    }

    private static int factorial(int n) {
        int product = 1;
        for (int m = 2; m <= n; m++) {
            product *= m;
        }
        return product;
    }

    private static int greater(int a, int b) {
        return a > b ? a : b;
    }

    private boolean isWire(int w) {
        return w >= 0 && w < wireCount;
    }

    private boolean isComparator(int k) {
        return k >= 0 && k < count;
    }

    private void copyRow(int[] from, int[] to) {
        for (int w = 0; w < wireCount; w++) {
            to[w] = from[w];
        }
    }

    private boolean isSortedRow(int[] row) {
        for (int w = 0; w < wireCount; w++) {
            if (row[w] != w + 1) {
                return false;
            }
        }
        return true;
    }

    private boolean isSameRow(int[] a, int[] b) {
        for (int w = 0; w < wireCount; w++) {
            if (a[w] != b[w]) {
                return false;
            }
        }
        return true;
    }

    // Each number m takes one of the m places so far and sends the number there to the new place.
    // The digits of p in mixed base choose these places, so each p below n! gives another order.
    private void putOrder(int p) {
        int rest = p;
        for (int m = 1; m <= wireCount; m++) {
            int place = rest % m;
            rest /= m;
            numbers[m - 1] = numbers[place];
            numbers[place] = m;
        }
    }

    private void runOrder(int p) {
        putOrder(p);
        runThrough(numbers, 0, count);
    }

    /** Sends the row through the comparators from..to - 1 and answers how many of them exchange. */
    private int runThrough(int[] row, int from, int to) {
        int exchanged = 0;
        for (int c = from; c < to; c++) {
            int low = lowWire[c];
            int high = highWire[c];
            int number = row[low];
            if (number > row[high]) {
                row[low] = row[high];
                row[high] = number;
                exchanged++;
            }
        }
        return exchanged;
    }

    // A comparator that exchanges can still be idle, as later ones may mend what it leaves undone:
    // only the outputs of the two nets tell.
    private boolean canBeTakenOut(int k) {
        for (int p = 0; p < orderCount; p++) {
            putOrder(p);
            runThrough(numbers, 0, k);
            copyRow(numbers, otherNumbers);
            runThrough(numbers, k, count);
            runThrough(otherNumbers, k + 1, count);
            if (!isSameRow(numbers, otherNumbers)) {
                return false;
            }
        }
        return true;
    }
}
