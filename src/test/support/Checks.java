import java.util.ArrayList;
import java.util.Arrays;
import java.util.List;
import java.util.function.Supplier;
import java.util.function.ToIntFunction;

/** What the tests share: comparing answers, making nets, and looking at the whole of an object. */
public abstract class Checks {
    // Written out, not taken from the class, so that a wrong constant there is seen.
    static final int BAD_ARG = -1;
    static final int FULL = -2;
    static final int NONE = -4;
    static final int MIN = Integer.MIN_VALUE;
    static final int MAX = Integer.MAX_VALUE;
    static final int MOST = 24;
    static final int[] FACTORIAL = {1, 1, 2, 6, 24, 120, 720, 5040};

    // The ends of int, numbers that would be in range if cut to 8 or 16 bits, and those near some other range.
    private static final int[] NUMBERS = {
        MIN, MIN + 1, -65536, -256, -24, -3, -2, -1, 0, 1, 2, 6, 7, 8, 22, 23, 24, 25, 32, 100, 256, 257, 65536, 65537,
        MAX - 1, MAX};

    private static int wrong = 0;

    static void due(String call, long got, long want) {
        if (got != want) {
            wrong++;
            System.out.println(call + " answered " + got + ", due is " + want);
        }
    }

    static void same(String what, Object got, Object want) {
        if (!got.equals(want)) {
            wrong++;
            System.out.println(what + ": found " + got + ", due is " + want);
        }
    }

    static void end() {
        System.exit(wrong == 0 ? 0 : 1);
    }

    /** Both ends of a range and one step inside each, as far as they are in it. */
    static int[] inside(int least, int most) {
        return Arrays.stream(new int[] {least, least + 1, most - 1, most})
                .filter(a -> least <= a && a <= most).distinct().toArray();
    }

    /** One step outside each end of a range, the least and the greatest int, and others that are outside. */
    static int[] outside(int least, int most) {
        int[] all = Arrays.copyOf(NUMBERS, NUMBERS.length + 2);
        all[NUMBERS.length] = least - 1;
        all[NUMBERS.length + 1] = most + 1;
        return Arrays.stream(all).filter(a -> a < least || a > most).distinct().toArray();
    }

    static ComparatorNet net(int wires, int... pairs) {
        ComparatorNet x = new ComparatorNet(wires);
        addAll(x, pairs);
        return x;
    }

    static void addAll(ComparatorNet x, int... pairs) {
        for (int p = 0; p < pairs.length; p += 2) {
            int before = x.size();
            due("building add(" + pairs[p] + ", " + pairs[p + 1] + ")", x.add(pairs[p], pairs[p + 1]), before + 1);
        }
    }

    static ComparatorNet bubble(int wires) {
        ComparatorNet x = new ComparatorNet(wires);
        for (int last = wires - 1; last > 0; last--) {
            for (int w = 0; w < last; w++) {
                addAll(x, w, w + 1);
            }
        }
        return x;
    }

    /** A net of 24 equal comparators. */
    static ComparatorNet full(int wires) {
        ComparatorNet x = new ComparatorNet(wires);
        for (int c = 0; c < MOST; c++) {
            addAll(x, 0, 1);
        }
        return x;
    }

    /** The pairs of a row in which neighbours differ, so that a lost or moved comparator is seen. */
    static int[] mixedPairs(int wires, int size) {
        int[] pairs = new int[2 * size];
        for (int c = 0; c < size; c++) {
            pairs[2 * c] = c % wires;
            pairs[2 * c + 1] = (c + 1 + c / wires % (wires - 1)) % wires;
        }
        return pairs;
    }

    /** A net of mixed pairs with an input of different numbers, none of them 0. */
    static ComparatorNet mixed(int wires, int size) {
        ComparatorNet x = net(wires, mixedPairs(wires, size));
        inputs(x, mixedInputs(wires));
        return x;
    }

    static int[] mixedInputs(int wires) {
        return Arrays.copyOf(new int[] {40, -7, 13, MAX, 2, MIN, -100}, wires);
    }

    static void inputs(ComparatorNet x, int... values) {
        for (int w = 0; w < values.length; w++) {
            due("input(" + w + ", " + values[w] + ")", x.input(w, values[w]), 0);
        }
    }

    static void outputs(String what, ComparatorNet x, int... values) {
        for (int w = 0; w < values.length; w++) {
            due(what + ": output(" + w + ")", x.output(w), values[w]);
        }
    }

    static int[] upward(int wires) {
        int[] row = new int[wires];
        for (int w = 0; w < wires; w++) {
            row[w] = w + 1;
        }
        return row;
    }

    static int[] downward(int wires) {
        int[] row = new int[wires];
        for (int w = 0; w < wires; w++) {
            row[w] = wires - w;
        }
        return row;
    }

    /** The state that an object of so many wires, this net and this input is in, as {@link #state} reads it. */
    static String stateOf(int wires, int[] pairs, int[] inputs) {
        List<String> comparators = new ArrayList<>();
        for (int p = 0; p < pairs.length; p += 2) {
            comparators.add(pairs[p] + " " + pairs[p + 1]);
        }
        return wires + " wires, net " + comparators + ", input " + Arrays.toString(inputs);
    }

    /** Reads the wires, the net and the input. Reading wears an object out, so a new one is made for each part. */
    static String state(Supplier<ComparatorNet> maker) {
        int wires = wires(maker.get());
        int size = maker.get().size();
        List<String> comparators = new ArrayList<>();
        for (int k = 0; k < size; k++) {
            comparators.add(comparator(maker.get(), wires, k));
        }
        ComparatorNet x = maker.get();
        dropAllBut(x, -1);
        return wires + " wires, net " + comparators + ", input " + Arrays.toString(outputRow(x, wires));
    }

    static int wires(ComparatorNet x) {
        int wires = 0;
        while (wires < 100 && x.input(wires, 1) == 0) {
            wires++;
        }
        return wires;
    }

    private static String comparator(ComparatorNet x, int wires, int k) {
        dropAllBut(x, k);
        String upward = exchanged(x, upward(wires), true);
        return upward.isEmpty() ? exchanged(x, downward(wires), false) : upward;
    }

    private static void dropAllBut(ComparatorNet x, int kept) {
        for (int k = x.size() - 1; k >= 0; k--) {
            if (k != kept) {
                x.drop(k);
            }
        }
    }

    /** The wires whose outputs differ from the input, the wire of the greater number first. */
    private static String exchanged(ComparatorNet x, int[] row, boolean lastFirst) {
        inputs(x, row);
        int[] out = outputRow(x, row.length);
        String found = "";
        for (int w = 0; w < row.length; w++) {
            if (out[w] != row[w]) {
                found = found.isEmpty() ? "" + w : lastFirst ? w + " " + found : found + " " + w;
            }
        }
        return found;
    }

    static int[] outputRow(ComparatorNet x, int wires) {
        int[] row = new int[wires];
        for (int w = 0; w < wires; w++) {
            row[w] = x.output(w);
        }
        return row;
    }

    /** The answers to all questions, with all arguments that are in range. */
    static List<Integer> answers(ComparatorNet x, int wires) {
        List<Integer> all = new ArrayList<>(List.of(
                x.size(), x.exchanges(), x.sorts(), x.sorted(), x.idle(), x.rounds()));
        for (int k = 0; k < x.size(); k++) {
            all.add(x.works(k));
        }
        for (int v = 0; v < wires; v++) {
            all.add(x.output(v));
            for (int w = 0; w < wires; w++) {
                all.add(x.below(v, w));
                all.add(x.ranks(v, w + 1));
            }
        }
        return all;
    }

    /** The call is refused with the code by a mixed net, which stays as it was. */
    static void refused(String call, int wires, int size, ToIntFunction<ComparatorNet> made, int code) {
        changed(call, wires, size, made, code, mixedPairs(wires, size), mixedInputs(wires));
    }

    /** The call answers so, and the mixed net becomes the one of these pairs with this input. */
    static void changed(String call, int wires, int size, ToIntFunction<ComparatorNet> made, int answer,
            int[] pairs, int[] row) {
        String name = call + " of " + wires + " wires, " + size + " comparators";
        same("state after " + name, state(() -> {
            ComparatorNet x = mixed(wires, size);
            due(name, made.applyAsInt(x), answer);
            return x;
        }), stateOf(wires, pairs, row));
        // With more wires all the questions take too long to ask them after every call.
        if (wires <= 4) {
            answersChanged(name, wires, size, made, pairs, row);
        }
    }

    static void answersChanged(String name, int wires, int size, ToIntFunction<ComparatorNet> made,
            int[] pairs, int[] row) {
        ComparatorNet x = mixed(wires, size);
        // Asked before, too: an answer that is kept from then would be seen.
        answers(x, wires);
        made.applyAsInt(x);
        ComparatorNet fresh = net(wires, pairs);
        inputs(fresh, row);
        same("answers after " + name, answers(x, wires), answers(fresh, wires));
    }
}
