/** One method for each promise of the document: ordinary inputs, named edges and wrong inputs. */
public final class PromiseTest extends Checks {
    private static final int[] NOT_WIRES_OF_4 = {-1, 4, 7, 24, MIN, MAX};

    public static void main(String[] args) {
        constants();
        newObject();
        add();
        drop();
        swap();
        turn();
        size();
        input();
        output();
        exchanges();
        sorts();
        sorted();
        ranks();
        works();
        below();
        idle();
        rounds();
        questionsChangeNothing();
        objectsAreApart();
        end();
    }

    private static ComparatorNet sorter4() {
        return net(4, 0, 1, 2, 3, 0, 2, 1, 3, 1, 2);
    }

    private static void constants() {
        due("BAD_ARG", ComparatorNet.BAD_ARG, BAD_ARG);
        due("FULL", ComparatorNet.FULL, FULL);
        due("NONE", ComparatorNet.NONE, NONE);
    }

    private static void newObject() {
        int[] asked = {MIN, -1, 0, 1, 2, 3, 4, 5, 6, 7, 8, 100, MAX};
        int[] given = {2, 2, 2, 2, 2, 3, 4, 5, 6, 7, 7, 7, 7};
        for (int a = 0; a < asked.length; a++) {
            ComparatorNet x = new ComparatorNet(asked[a]);
            String name = "new ComparatorNet(" + asked[a] + ")";
            due(name + ".size()", x.size(), 0);
            due(name + ".rounds()", x.rounds(), 0);
            due(name + ".exchanges()", x.exchanges(), 0);
            for (int w = 0; w < given[a]; w++) {
                due(name + ".output(" + w + ")", x.output(w), 0);
            }
            due(name + ".input(n - 1, 5)", x.input(given[a] - 1, 5), 0);
            due(name + ".input(n, 5)", x.input(given[a], 5), BAD_ARG);
            due(name + ".ranks(0, n)", x.ranks(0, given[a]) > 0 ? 1 : 0, 1);
            due(name + ".ranks(0, n + 1)", x.ranks(0, given[a] + 1), BAD_ARG);
        }
    }

    private static void add() {
        ComparatorNet x = new ComparatorNet(4);
        for (int bad : NOT_WIRES_OF_4) {
            due("add(" + bad + ", 0)", x.add(bad, 0), BAD_ARG);
            due("add(0, " + bad + ")", x.add(0, bad), BAD_ARG);
            due("add(" + bad + ", " + bad + ")", x.add(bad, bad), BAD_ARG);
        }
        due("add(2, 2)", x.add(2, 2), BAD_ARG);
        due("size() after refused adds", x.size(), 0);
        due("add(0, 3)", x.add(0, 3), 1);
        due("add(3, 0)", x.add(3, 0), 2);
        inputs(x, 1, 2, 3, 4);
        outputs("the later comparator is the last", x, 4, 2, 3, 1);

        ComparatorNet f = full(4);
        due("add(1, 2) when full", f.add(1, 2), FULL);
        due("add(1, 1) when full", f.add(1, 1), BAD_ARG);
        due("add(4, 1) when full", f.add(4, 1), BAD_ARG);
        due("add(1, -1) when full", f.add(1, -1), BAD_ARG);
        due("size() when full", f.size(), 24);
        inputs(f, 0, 9, 5, 0);
        outputs("a refused add leaves the net", f, 0, 9, 5, 0);
        due("drop(23) when full", f.drop(23), 23);
        due("add(1, 2) after drop", f.add(1, 2), 24);
        outputs("the new last comparator is there", f, 0, 5, 9, 0);
        due("add(1, 2) when full again", f.add(1, 2), FULL);
    }

    private static void drop() {
        ComparatorNet x = net(4, 0, 1, 1, 2, 2, 3);
        for (int bad : new int[] {-1, 3, 4, 24, MIN, MAX}) {
            due("drop(" + bad + ")", x.drop(bad), NONE);
        }
        due("size() after refused drops", x.size(), 3);
        inputs(x, 4, 3, 2, 1);
        outputs("before drop", x, 3, 2, 1, 4);
        due("drop(1)", x.drop(1), 2);
        outputs("after drop(1)", x, 3, 4, 1, 2);
        due("drop(0)", x.drop(0), 1);
        outputs("after drop(0)", x, 4, 3, 1, 2);
        due("drop(1) of one", x.drop(1), NONE);
        due("drop(0) of one", x.drop(0), 0);
        outputs("after all drops", x, 4, 3, 2, 1);
        due("drop(0) of none", x.drop(0), NONE);

        ComparatorNet f = full(2);
        due("drop(24) when full", f.drop(24), NONE);
        for (int left = 23; left >= 0; left--) {
            due("drop(0) from full", f.drop(0), left);
        }
    }

    private static void swap() {
        ComparatorNet x = net(3, 0, 1, 1, 2, 0, 2);
        for (int bad : new int[] {-1, 2, 3, 23, 24, MIN, MAX}) {
            due("swap(" + bad + ")", x.swap(bad), NONE);
        }
        inputs(x, 3, 2, 1);
        due("works(1) before swap", x.works(1), 4);
        outputs("before swap", x, 2, 1, 3);
        due("swap(0)", x.swap(0), 0);
        outputs("1 2, 0 1, 0 2", x, 1, 3, 2);
        due("swap(1)", x.swap(1), 0);
        outputs("1 2, 0 2, 0 1", x, 1, 2, 3);
        due("exchanges() of 1 2, 0 2, 0 1", x.exchanges(), 3);
        due("size() after swaps", x.size(), 3);
        due("drop(1)", x.drop(1), 2);
        outputs("1 2, 0 1", x, 1, 3, 2);
        due("drop(1)", x.drop(1), 1);
        due("swap(0) of one", x.swap(0), NONE);
        due("drop(0)", x.drop(0), 0);
        due("swap(0) of none", x.swap(0), NONE);
        due("swap(-1) of none", x.swap(-1), NONE);

        ComparatorNet f = full(2);
        due("swap(22) when full", f.swap(22), 0);
        due("swap(23) when full", f.swap(23), NONE);
        due("swap(24) when full", f.swap(24), NONE);
    }

    private static void turn() {
        due("turn() of none", new ComparatorNet(5).turn(), 0);
        ComparatorNet x = net(4, 0, 1, 3, 1);
        inputs(x, 4, 3, 2, 1);
        outputs("before turn", x, 3, 4, 2, 1);
        due("turn()", x.turn(), 2);
        outputs("2 3, 2 0", x, 4, 3, 1, 2);
        inputs(x, 1, 2, 4, 3);
        outputs("2 3, 2 0 on 1 2 4 3", x, 3, 2, 1, 4);
        due("turn() again", x.turn(), 2);
        inputs(x, 4, 3, 2, 1);
        outputs("after two turns", x, 3, 4, 2, 1);
        due("size() after turns", x.size(), 2);
        due("turn() when full", full(7).turn(), 24);

        ComparatorNet odd = net(5, 2, 0);
        inputs(odd, 5, 4, 3, 2, 1);
        due("turn() of 2 0 on 5 wires", odd.turn(), 1);
        outputs("4 2 is in the net", odd, 5, 4, 3, 2, 1);
        due("works(0)", odd.works(0), 60);
        inputs(odd, 5, 4, 1, 2, 3);
        outputs("4 2 exchanges", odd, 5, 4, 3, 2, 1);
    }

    private static void size() {
        ComparatorNet x = new ComparatorNet(3);
        due("size() of none", x.size(), 0);
        x.add(0, 1);
        due("size() of one", x.size(), 1);
        x.add(0, 1);
        due("size() of two", x.size(), 2);
        x.swap(0);
        x.turn();
        x.input(0, 9);
        due("size() is not changed by swap, turn, input", x.size(), 2);
        x.drop(0);
        due("size() after drop", x.size(), 1);
        due("size() when full", full(3).size(), 24);
    }

    private static void input() {
        ComparatorNet x = new ComparatorNet(4);
        inputs(x, 7, 8, 9, 10);
        for (int bad : NOT_WIRES_OF_4) {
            due("input(" + bad + ", 5)", x.input(bad, 5), BAD_ARG);
        }
        outputs("a refused input changes nothing", x, 7, 8, 9, 10);
        due("input(1, -4)", x.input(1, -4), 0);
        outputs("input again", x, 7, -4, 9, 10);
        due("input(0, MIN)", x.input(0, MIN), 0);
        due("input(3, MAX)", x.input(3, MAX), 0);
        outputs("the ends of int", x, MIN, -4, 9, MAX);
        x.add(0, 1);
        x.turn();
        x.drop(0);
        outputs("the input outlasts changes of the net", x, MIN, -4, 9, MAX);
    }

    private static void output() {
        ComparatorNet x = sorter4();
        inputs(x, 5, 5, 5, 5);
        for (int bad : NOT_WIRES_OF_4) {
            due("output(" + bad + ")", x.output(bad), 0);
        }
        outputs("equal numbers", x, 5, 5, 5, 5);
        inputs(x, 30, -2, 30, 1);
        outputs("equal and negative numbers", x, -2, 1, 30, 30);
        outputs("asked again", x, -2, 1, 30, 30);
        inputs(x, MAX, MIN, 0, -1);
        outputs("the ends of int", x, MIN, -1, 0, MAX);

        ComparatorNet back = net(2, 1, 0);
        inputs(back, MIN, MAX);
        outputs("comparator 1 0", back, MAX, MIN);
    }

    private static void exchanges() {
        ComparatorNet x = sorter4();
        due("exchanges() of equal numbers", x.exchanges(), 0);
        inputs(x, 1, 2, 3, 4);
        due("exchanges() of 1 2 3 4", x.exchanges(), 0);
        inputs(x, 4, 3, 2, 1);
        due("exchanges() of 4 3 2 1", x.exchanges(), 4);
        due("exchanges() asked again", x.exchanges(), 4);
        inputs(x, 5, -2, 0, 1);
        due("exchanges() of 5 -2 0 1", x.exchanges(), 3);

        ComparatorNet wide = net(2, 0, 1);
        inputs(wide, MIN, MAX);
        due("exchanges() of MIN MAX", wide.exchanges(), 0);
        inputs(wide, MAX, MIN);
        due("exchanges() of MAX MIN", wide.exchanges(), 1);

        ComparatorNet flip = net(2, 0, 1, 1, 0, 0, 1);
        inputs(flip, 1, 2);
        due("exchanges() there and back", flip.exchanges(), 2);
        due("exchanges() of none", new ComparatorNet(7).exchanges(), 0);
    }

    private static void sorts() {
        for (int n = 2; n <= 7; n++) {
            due("sorts() of no comparators on " + n, new ComparatorNet(n).sorts(), 0);
            ComparatorNet x = bubble(n);
            due("sorts() of bubble " + n, x.sorts(), 1);
            x.drop(x.size() - 1);
            due("sorts() of bubble " + n + " without its last", x.sorts(), 0);
        }
        due("sorts() of 1 0", net(2, 1, 0).sorts(), 0);
        due("sorts() of sorter4", sorter4().sorts(), 1);
    }

    private static void sorted() {
        for (int n = 2; n <= 7; n++) {
            due("sorted() of none on " + n, new ComparatorNet(n).sorted(), 1);
            due("sorted() of 0 1 on " + n, net(n, 0, 1).sorted(), 2);
            due("sorted() of bubble " + n, bubble(n).sorted(), FACTORIAL[n]);
            due("sorted() of 1 0 on " + n, net(n, 1, 0).sorted(), 0);
        }
        due("sorted() of 0 1, 1 2", net(3, 0, 1, 1, 2).sorted(), 4);
    }

    private static void ranks() {
        ComparatorNet x = net(4, 0, 1);
        for (int bad : NOT_WIRES_OF_4) {
            due("ranks(" + bad + ", 1)", x.ranks(bad, 1), BAD_ARG);
        }
        for (int bad : new int[] {0, -1, 5, 7, MIN, MAX}) {
            due("ranks(0, " + bad + ")", x.ranks(0, bad), BAD_ARG);
        }
        for (int r = 1; r <= 4; r++) {
            due("ranks(0, " + r + ")", x.ranks(0, r), 4 * (4 - r));
            due("ranks(1, " + r + ")", x.ranks(1, r), 4 * (r - 1));
            due("ranks(2, " + r + ")", x.ranks(2, r), 6);
            due("ranks(3, " + r + ")", x.ranks(3, r), 6);
        }
        due("ranks(6, 7) of none", new ComparatorNet(7).ranks(6, 7), 720);
        due("ranks(6, 7) of bubble", bubble(7).ranks(6, 7), 5040);
        due("ranks(1, 2) of none on 2", new ComparatorNet(2).ranks(1, 2), 1);
    }

    private static void works() {
        ComparatorNet x = net(3, 0, 1, 1, 2, 0, 1, 0, 2, 2, 0);
        for (int bad : new int[] {-1, 5, 24, MIN, MAX}) {
            due("works(" + bad + ")", x.works(bad), NONE);
        }
        due("works(0)", x.works(0), 3);
        due("works(1)", x.works(1), 4);
        due("works(2), if the smallest was on wire 2", x.works(2), 2);
        due("works(3), behind a sorter", x.works(3), 0);
        due("works(4), against a sorter", x.works(4), 6);
        due("works(0) of none", new ComparatorNet(2).works(0), NONE);
        ComparatorNet f = full(7);
        due("works(0) when full", f.works(0), 2520);
        due("works(23) when full", f.works(23), 0);
        due("works(24) when full", f.works(24), NONE);
    }

    private static void below() {
        ComparatorNet x = net(4, 0, 1);
        for (int bad : NOT_WIRES_OF_4) {
            due("below(" + bad + ", 0)", x.below(bad, 0), BAD_ARG);
            due("below(0, " + bad + ")", x.below(0, bad), BAD_ARG);
            due("below(" + bad + ", " + bad + ")", x.below(bad, bad), BAD_ARG);
        }
        due("below(0, 1)", x.below(0, 1), 24);
        due("below(1, 0)", x.below(1, 0), 0);
        due("below(0, 2)", x.below(0, 2), 16);
        due("below(2, 0)", x.below(2, 0), 8);
        due("below(2, 3)", x.below(2, 3), 12);
        for (int w = 0; w < 4; w++) {
            due("below(" + w + ", " + w + ")", x.below(w, w), 0);
        }
        due("below(5, 6) of none on 7", new ComparatorNet(7).below(5, 6), 2520);
    }

    private static void idle() {
        due("idle() of none", new ComparatorNet(3).idle(), 0);
        due("idle() of one", net(3, 0, 1).idle(), 0);
        due("idle() of 0 1 on 2 wires, needed for one order", net(2, 0, 1).idle(), 0);
        due("idle() of 1 0 on 2 wires, needed for one order", net(2, 1, 0).idle(), 0);
        due("idle() of a twin, each alone", net(3, 0, 1, 0, 1).idle(), 2);
        due("idle() of there and back", net(2, 0, 1, 1, 0).idle(), 1);
        due("idle() of sorter4", sorter4().idle(), 0);
        due("idle() of bubble 7", bubble(7).idle(), 0);
        due("idle() when full of twins", full(7).idle(), 24);
        due("idle() in front of a sorter", net(3, 0, 2, 0, 1, 1, 2, 0, 1).idle(), 3);
        ComparatorNet x = sorter4();
        x.add(0, 3);
        due("idle() behind a sorter", x.idle(), 1);
        due("size() after idle()", x.size(), 6);
    }

    private static void rounds() {
        due("rounds() of none", new ComparatorNet(7).rounds(), 0);
        due("rounds() of one", net(2, 0, 1).rounds(), 1);
        due("rounds() of sorter4", sorter4().rounds(), 3);
        due("rounds() of apart ones", net(7, 0, 1, 2, 3, 5, 4).rounds(), 1);
        due("rounds() of a chain", net(4, 0, 1, 1, 2, 2, 3).rounds(), 3);
        due("rounds() of a chain backward", net(4, 1, 0, 2, 1, 3, 2).rounds(), 3);
        due("rounds(): an early round is free for a late one",
                net(4, 0, 1, 0, 1, 0, 1, 2, 3).rounds(), 3);
        due("rounds(): the busier wire counts", net(4, 0, 1, 1, 0, 3, 2, 2, 0, 3, 1).rounds(), 3);
        due("rounds() of bubble 7", bubble(7).rounds(), 11);
        due("rounds() when full", full(2).rounds(), 24);
        ComparatorNet x = full(3);
        due("rounds() asked again", x.rounds() + x.rounds(), 48);
    }

    private static void questionsChangeNothing() {
        ComparatorNet x = sorter4();
        inputs(x, 4, 3, 2, 1);
        for (int turn = 0; turn < 2; turn++) {
            due("sorted()", x.sorted(), 24);
            due("works(4)", x.works(4), 16);
            due("idle()", x.idle(), 0);
            due("rounds()", x.rounds(), 3);
            due("below(0, 1)", x.below(0, 1), 24);
            due("ranks(3, 4)", x.ranks(3, 4), 24);
            due("exchanges()", x.exchanges(), 4);
            outputs("after questions", x, 1, 2, 3, 4);
        }
    }

    private static void objectsAreApart() {
        ComparatorNet one = net(3, 0, 1);
        ComparatorNet two = net(4, 3, 2, 1, 0);
        inputs(one, 9, 8, 7);
        inputs(two, 1, 2, 3, 4);
        due("size() of one", one.size(), 1);
        due("size() of two", two.size(), 2);
        outputs("one", one, 8, 9, 7);
        outputs("two", two, 2, 1, 4, 3);
    }
}
