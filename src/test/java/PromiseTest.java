// One method for each promise of the document: ordinary inputs, edges, wrong inputs.
public final class PromiseTest {
    private static int wrong = 0;
    private static int asked = 0;
    private static int promise = 0;

    private static final int LEAST = Integer.MIN_VALUE;
    private static final int GREATEST = Integer.MAX_VALUE;

    private static void due(String call, long got, long want) {
        asked++;
        if (got != want) {
            wrong++;
            System.out.println("promise " + promise + ": " + call + " answered " + got + ", due is " + want);
        }
    }

    private static void due(String call, boolean got, boolean want) {
        due(call, got ? 1 : 0, want ? 1 : 0);
    }

    /** A call was refused with a fault: NONE for numbers. */
    private static void refused(HeapBench x, String call, long got, int why) {
        due(call, got, HeapBench.NONE);
        due(call + ", fault()", x.fault(), why);
    }

    private static void refused(HeapBench x, String call, boolean got, int why) {
        due(call, got, false);
        due(call + ", fault()", x.fault(), why);
    }

    private static HeapBench with(int n) {
        HeapBench x = new HeapBench();
        due("things(" + n + ")", x.things(n), true);
        return x;
    }

    /** Two close pairs, 0 1 and 2 3, far from each other. */
    private static HeapBench twoPairs() {
        HeapBench x = with(4);
        x.way(0, 1, 3);
        x.way(2, 3, 4);
        x.way(0, 2, 10);
        x.way(0, 3, 10);
        x.way(1, 2, 10);
        x.way(1, 3, 10);
        return x;
    }

    private static void place(HeapBench x, int thing, int... numbers) {
        x.sheet(2, numbers.length);
        for (int i = 0; i < numbers.length; i++) {
            x.entry(i, numbers[i]);
        }
        due("lay(" + thing + ")", x.lay(thing), true);
    }

    private static void list(HeapBench x, int... numbers) {
        for (int v : numbers) {
            x.tell(v);
        }
    }

    private static String name(HeapBench x) {
        StringBuilder text = new StringBuilder();
        for (int i = 0; i < x.count(0); i++) {
            text.append(Integer.toString(x.heap(i), 36));
        }
        return text.toString();
    }

    private static void named(HeapBench x, String behind, String want) {
        String got = name(x);
        asked++;
        if (!got.equals(want)) {
            wrong++;
            System.out.println("promise " + promise + ": behind " + behind + " the name is " + got + ", due is " + want);
        }
    }

    public static void main(String[] args) {
        firstTwelve();
        nextThirteen();
        lastTwelve();
        System.out.println(asked + " answers asked, " + wrong + " not as due");
        if (wrong != 0) {
            System.exit(1);
        }
    }

    private static void firstTwelve() {
        aNewObject(promise = 1);
        things(promise = 2);
        way(promise = 3);
        sheet(promise = 4);
        entry(promise = 5);
        lay(promise = 6);
        measure(promise = 7);
        quarrel(promise = 8);
        put(promise = 9);
        count(promise = 10);
        heap(promise = 11);
        pair(promise = 12);
    }

    private static void nextThirteen() {
        cost(promise = 13);
        middle(promise = 14);
        best(promise = 15);
        line(promise = 16);
        better(promise = 17);
        two(promise = 18);
        centres(promise = 19);
        third(promise = 20);
        thirds(promise = 21);
        rounds(promise = 22);
        tree(promise = 23);
        joined(promise = 24);
        height(promise = 25);
    }

    private static void lastTwelve() {
        cut(promise = 26);
        many(promise = 27);
        rank(promise = 28);
        of(promise = 29);
        keep(promise = 30);
        differ(promise = 31);
        both(promise = 32);
        tell(promise = 33);
        check(promise = 34);
        load(promise = 35);
        undo(promise = 36);
        fault(promise = 37);
    }

    private static void aNewObject(int p) {
        HeapBench x = new HeapBench();
        due("fault()", x.fault(), 0);
        due("count(0)", x.count(0), 1);
        due("count(1)", x.count(1), 1);
        due("count(2)", x.count(2), 0);
        due("count(3)", x.count(3), -1);
        due("count(4)", x.count(4), 0);
        due("count(5)", x.count(5), -1);
        due("heap(0)", x.heap(0), 0);
        for (int k = 0; k < 4; k++) {
            refused(x, "differ(" + k + ")", x.differ(k), 2);
        }
        refused(x, "undo()", x.undo(), 2);
        refused(x, "lay(0)", x.lay(0), 2);
        refused(x, "entry(0, 0)", x.entry(0, 0), 2);
        refused(x, "heap(1)", x.heap(1), 1);
        due("NONE", HeapBench.NONE, -1);
    }

    private static void things(int p) {
        HeapBench x = new HeapBench();
        for (int n : new int[] {0, 13, -1, LEAST, GREATEST}) {
            refused(x, "things(" + n + ")", x.things(n), 1);
        }
        due("count(0)", x.count(0), 1);
        due("count(2) behind refusals", x.count(2), 0);
        due("things(12)", x.things(12), true);
        due("count(0)", x.count(0), 12);
        x.way(10, 11, 7);
        x.quarrel(10, 11, 7, true);
        place(x, 11, 5);
        x.put(11, 1);
        x.keep(2);
        x.tell(5);
        x.sheet(0, 3);
        x.tree(0);
        refused(x, "things(13)", x.things(13), 1);
        due("count(3): the TREE stays", x.count(3), 11);
        due("things(12) again", x.things(12), true);
        due("pair(10, 11, 0)", x.pair(10, 11, 0), 0);
        due("pair(10, 11, 1)", x.pair(10, 11, 1), 0);
        due("pair(10, 11, 2)", x.pair(10, 11, 2), 0);
        due("count(1)", x.count(1), 1);
        due("heap(11)", x.heap(11), 0);
        due("count(3): no TREE", x.count(3), -1);
        due("count(4): the LIST stays", x.count(4), 1);
        due("count(5): the SHEET stays", x.count(5), 3);
        due("differ(2): the KEEP stays", x.differ(2), 11);
        x.measure(0);
        due("pair(10, 11, 0): places are 0", x.pair(10, 11, 0), 0);
        due("things(1)", x.things(1), true);
        due("count(0)", x.count(0), 1);
    }

    private static void way(int p) {
        HeapBench x = with(3);
        due("way(0, 2, 10000)", x.way(0, 2, 10000), 0);
        due("way(2, 0, 0)", x.way(2, 0, 0), 10000);
        due("way(0, 2, 5)", x.way(0, 2, 5), 0);
        due("pair(2, 0, 0)", x.pair(2, 0, 0), 5);
        due("pair(0, 1, 0)", x.pair(0, 1, 0), 0);
        int changes = x.count(2);
        refused(x, "way(0, 3, 1)", x.way(0, 3, 1), 1);
        refused(x, "way(3, 0, 1)", x.way(3, 0, 1), 1);
        refused(x, "way(-1, 0, 1)", x.way(-1, 0, 1), 1);
        refused(x, "way(0, -1, 1)", x.way(0, -1, 1), 1);
        refused(x, "way(1, 1, 1)", x.way(1, 1, 1), 1);
        refused(x, "way(0, 2, -1)", x.way(0, 2, -1), 1);
        refused(x, "way(0, 2, 10001)", x.way(0, 2, 10001), 1);
        refused(x, "way(least, greatest, 1)", x.way(LEAST, GREATEST, 1), 1);
        due("pair(0, 2, 0)", x.pair(0, 2, 0), 5);
        due("count(2)", x.count(2), changes);
        x.tree(0);
        due("way(0, 2, 6)", x.way(0, 2, 6), 5);
        due("count(3): the TREE stays", x.count(3), 2);
    }

    private static void sheet(int p) {
        HeapBench x = new HeapBench();
        for (int kind = 0; kind < 4; kind++) {
            due("sheet(kind, 0)", x.sheet(kind, 0), 0);
            due("count(5)", x.count(5), 0);
            due("sheet(kind, 8)", x.sheet(kind, 8), 8);
            refused(x, "sheet(kind, 9)", x.sheet(kind, 9), 1);
            refused(x, "sheet(kind, greatest)", x.sheet(kind, GREATEST), 1);
            refused(x, "sheet(kind, -1)", x.sheet(kind, -1), 4);
            refused(x, "sheet(kind, least)", x.sheet(kind, LEAST), 4);
            due("count(5): as it was", x.count(5), 8);
        }
        for (int m : new int[] {LEAST, -1, 0, 9, GREATEST}) {
            due("sheet(4, m)", x.sheet(4, m), 0);
            due("fault()", x.fault(), 0);
            due("count(5)", x.count(5), 0);
        }
        refused(x, "sheet(5, 1)", x.sheet(5, 1), 1);
        refused(x, "sheet(-1, 1)", x.sheet(-1, 1), 1);
        refused(x, "sheet(5, -1): the least fault", x.sheet(5, -1), 1);
        x.sheet(2, 4);
        x.entry(0, 900);
        due("sheet(2, 4): anew", x.sheet(2, 4), 4);
        x.things(2);
        x.lay(1);
        x.measure(0);
        due("pair(0, 1, 0): entries are 0", x.pair(0, 1, 0), 0);
        int changes = x.count(2);
        x.sheet(3, 1);
        due("count(2): no change", x.count(2), changes);
    }

    private static void entry(int p) {
        HeapBench x = with(2);
        refused(x, "entry(0, 1) without", x.entry(0, 1), 2);
        refused(x, "entry(9, 1) without: asked ahead", x.entry(9, 1), 2);
        x.sheet(4, 8);
        refused(x, "entry(0, 1) of a missing one", x.entry(0, 1), 2);
        refused(x, "entry(-1, 1) of a missing one", x.entry(-1, 1), 2);
        x.sheet(1, 0);
        refused(x, "entry(0, 1) of none", x.entry(0, 1), 1);
        x.sheet(1, 3);
        refused(x, "entry(-1, 1)", x.entry(-1, 1), 1);
        refused(x, "entry(3, 1)", x.entry(3, 1), 1);
        refused(x, "entry(least, 1)", x.entry(LEAST, 1), 1);
        entryOf(0, 0x1234567890L, 0x90 - 256);
        entryOf(0, 384, -128);
        entryOf(0, 127, 127);
        entryOf(1, 0x7f1234560009L, 9);
        entryOf(1, 65535, -1);
        entryOf(1, 65536 + 700, 700);
        entryOf(2, 0x100000005L, 5);
        entryOf(2, 0xffffffffL, -1);
        entryOf(3, -1000, -1000);
        HeapBench y = with(2);
        y.sheet(3, 1);
        due("entry of longs", y.entry(0, 0x100000005L), true);
        refused(y, "lay(0) of a long", y.lay(0), 1);
        due("entry of longs", y.entry(0, 0x8000000000000001L), true);
        refused(y, "lay(0) of the least long", y.lay(0), 1);
        due("count(2): no change", y.count(2), 1);
    }

    /** What an entry has become is seen by the way to a thing at 0 and to one at 1. */
    private static void entryOf(int kind, long v, int becomes) {
        HeapBench x = with(3);
        place(x, 2, 1);
        x.sheet(kind, 1);
        due("entry(0, " + v + ")", x.entry(0, v), true);
        due("lay(0)", x.lay(0), true);
        x.measure(0);
        due("size of " + v + " by kind " + kind, x.pair(0, 1, 0), Math.abs(becomes));
        due("size of " + v + " - 1 by kind " + kind, x.pair(0, 2, 0), Math.abs(becomes - 1));
    }

    private static void lay(int p) {
        HeapBench x = with(2);
        refused(x, "lay(0) without", x.lay(0), 2);
        refused(x, "lay(2) without: the least fault", x.lay(2), 1);
        refused(x, "lay(-1) without: the least fault", x.lay(-1), 1);
        x.sheet(2, 8);
        for (int i = 0; i < 8; i++) {
            x.entry(i, i < 4 ? i + 1 : 5000);
        }
        int changes = x.count(2);
        refused(x, "lay(2)", x.lay(2), 1);
        due("count(5): the SHEET stays", x.count(5), 8);
        due("lay(1): entries behind the fourth don't matter", x.lay(1), true);
        due("count(2)", x.count(2), changes + 1);
        due("count(5): no SHEET", x.count(5), -1);
        x.measure(2);
        due("pair(0, 1, 0)", x.pair(0, 1, 0), 1 + 4 + 9 + 16);
        for (int i = 0; i < 4; i++) {
            x.sheet(1, 4);
            x.entry(i, 1001);
            refused(x, "lay(0) with 1001", x.lay(0), 1);
            x.entry(i, -1001);
            refused(x, "lay(0) with -1001", x.lay(0), 1);
            due("count(5): the SHEET stays", x.count(5), 4);
            x.entry(i, -1000);
            due("lay(0) with -1000", x.lay(0), true);
        }
        x.sheet(0, 1);
        x.entry(0, 100);
        due("lay(1): what it has not is 0", x.lay(1), true);
        x.sheet(4, 0);
        due("lay(0) of a missing one", x.lay(0), true);
        due("count(5)", x.count(5), -1);
        x.measure(0);
        due("pair(0, 1, 0)", x.pair(0, 1, 0), 100);
        x.sheet(2, 1);
        x.lay(1);
        x.undo();
        due("count(5): undo() brings no SHEET", x.count(5), -1);
        x.measure(0);
        due("pair(0, 1, 0): the PLACE of before", x.pair(0, 1, 0), 100);
    }

    private static void measure(int p) {
        HeapBench x = with(3);
        place(x, 0, 1, -2, 3, -4);
        place(x, 1, 4, 4, -4, -4);
        due("measure(0)", x.measure(0), 0);
        due("pair(0, 1, 0)", x.pair(0, 1, 0), 3 + 6 + 7);
        due("pair(2, 0, 0)", x.pair(2, 0, 0), 10);
        due("measure(1)", x.measure(1), 0);
        due("pair(0, 1, 0)", x.pair(0, 1, 0), 7);
        due("measure(2)", x.measure(2), 0);
        due("pair(0, 1, 0)", x.pair(0, 1, 0), 9 + 36 + 49);
        refused(x, "measure(3)", x.measure(3), 1);
        refused(x, "measure(-1)", x.measure(-1), 1);
        due("pair(0, 1, 0)", x.pair(0, 1, 0), 94);
        place(x, 0, 0);
        place(x, 1, 100);
        place(x, 2, 0, 1);
        due("measure(2): just 10000 is not more", x.measure(2), 1);
        due("pair(0, 1, 0)", x.pair(0, 1, 0), 10000);
        due("pair(1, 2, 0)", x.pair(1, 2, 0), 10000);
        place(x, 0, 1000, 1000, 1000, 1000);
        place(x, 1, -1000, -1000, -1000, -1000);
        due("measure(2)", x.measure(2), 3);
        due("measure(0)", x.measure(0), 0);
        due("pair(0, 1, 0)", x.pair(0, 1, 0), 8000);
        int changes = x.count(2);
        due("measure(0): a change where nothing is another one", x.measure(0), 0);
        due("count(2)", x.count(2), changes + 1);
        due("measure(2) of one thing", new HeapBench().measure(2), 0);
    }

    private static void quarrel(int p) {
        HeapBench x = with(3);
        due("quarrel(2, 0, 1000, true)", x.quarrel(2, 0, 1000, true), true);
        due("pair(0, 2, 1)", x.pair(0, 2, 1), 1000);
        due("pair(0, 2, 2)", x.pair(0, 2, 2), 1);
        due("pair(2, 0, 2)", x.pair(2, 0, 2), 1);
        refused(x, "quarrel(2, 0, 1001, false)", x.quarrel(2, 0, 1001, false), 1);
        refused(x, "quarrel(2, 0, -1, false)", x.quarrel(2, 0, -1, false), 1);
        refused(x, "quarrel(1, 1, 1, false)", x.quarrel(1, 1, 1, false), 1);
        refused(x, "quarrel(3, 0, 1, false)", x.quarrel(3, 0, 1, false), 1);
        refused(x, "quarrel(0, -1, 1, false)", x.quarrel(0, -1, 1, false), 1);
        refused(x, "quarrel(greatest, least, 1, false)", x.quarrel(GREATEST, LEAST, 1, false), 1);
        due("pair(0, 2, 1)", x.pair(0, 2, 1), 1000);
        due("quarrel(0, 2, 0, true)", x.quarrel(0, 2, 0, true), true);
        due("pair(0, 2, 1)", x.pair(0, 2, 1), 0);
        due("pair(0, 2, 2): weight 0 as told", x.pair(0, 2, 2), 1);
        due("quarrel(0, 2, 0, false)", x.quarrel(0, 2, 0, false), true);
        due("pair(0, 2, 2)", x.pair(0, 2, 2), 0);
        due("count(2)", x.count(2), 4);
    }

    private static void put(int p) {
        HeapBench x = with(4);
        due("put(0, 1)", x.put(0, 1), 2);
        named(x, "put(0, 1)", "0111");
        due("put(3, 2)", x.put(3, 2), 3);
        named(x, "put(3, 2)", "0112");
        due("put(1, 0)", x.put(1, 0), 3);
        named(x, "put(1, 0)", "0012");
        due("put(2, 2)", x.put(2, 2), 2);
        named(x, "put(2, 2)", "0011");
        due("put(0, 1)", x.put(0, 1), 2);
        named(x, "put(0, 1)", "0100");
        int changes = x.count(2);
        due("put(1, 1): where it is", x.put(1, 1), 2);
        due("put(1, 2): alone to a new one", x.put(1, 2), 2);
        named(x, "put(1, 2)", "0100");
        due("count(2)", x.count(2), changes + 2);
        refused(x, "put(1, 3)", x.put(1, 3), 1);
        refused(x, "put(1, -1)", x.put(1, -1), 1);
        refused(x, "put(4, 0)", x.put(4, 0), 1);
        refused(x, "put(-1, 0)", x.put(-1, 0), 1);
        refused(x, "put(greatest, least)", x.put(GREATEST, LEAST), 1);
        HeapBench y = with(12);
        for (int i = 1; i < 12; i++) {
            due("put(i, i)", y.put(i, i), i + 1);
        }
        due("put(5, 12) beside twelve", y.put(5, 12), 12);
        named(y, "put(5, 12)", "0123456789ab");
        refused(y, "put(5, 13)", y.put(5, 13), 1);
        due("put(0, 11)", y.put(0, 11), 11);
        named(y, "put(0, 11)", "0123456789a0");
    }

    private static void count(int p) {
        HeapBench x = with(5);
        x.put(3, 1);
        due("count(0)", x.count(0), 5);
        due("count(1)", x.count(1), 2);
        due("count(2)", x.count(2), 2);
        due("count(3)", x.count(3), -1);
        due("fault() of NONE that is no refusal", x.fault(), 0);
        x.tree(1);
        due("count(3)", x.count(3), 4);
        due("count(4)", x.count(4), 0);
        x.tell(3);
        due("count(4)", x.count(4), 1);
        due("count(5)", x.count(5), -1);
        due("fault()", x.fault(), 0);
        x.sheet(0, 6);
        due("count(5)", x.count(5), 6);
        refused(x, "count(6)", x.count(6), 1);
        refused(x, "count(-1)", x.count(-1), 1);
        refused(x, "count(greatest)", x.count(GREATEST), 1);
        for (int i = 0; i < 30; i++) {
            x.way(0, 1, i);
            due("count(2)", x.count(2), Math.min(20, 3 + i));
        }
    }

    private static void heap(int p) {
        HeapBench x = with(3);
        x.put(1, 1);
        due("heap(0)", x.heap(0), 0);
        due("heap(1)", x.heap(1), 1);
        due("heap(2)", x.heap(2), 0);
        refused(x, "heap(3)", x.heap(3), 1);
        refused(x, "heap(-1)", x.heap(-1), 1);
        refused(x, "heap(12)", x.heap(12), 1);
        refused(x, "heap(least)", x.heap(LEAST), 1);
        due("heap(2)", x.heap(2), 0);
        due("fault()", x.fault(), 0);
    }

    private static void pair(int p) {
        HeapBench x = with(3);
        x.way(0, 1, 9);
        x.quarrel(0, 1, 8, true);
        due("pair(1, 0, 0)", x.pair(1, 0, 0), 9);
        due("pair(1, 0, 1)", x.pair(1, 0, 1), 8);
        due("pair(1, 0, 2)", x.pair(1, 0, 2), 1);
        for (int what = 0; what < 3; what++) {
            due("pair(1, 1, what)", x.pair(1, 1, what), 0);
            due("pair(1, 2, what)", x.pair(1, 2, what), 0);
            refused(x, "pair(0, 3, what)", x.pair(0, 3, what), 1);
            refused(x, "pair(3, 0, what)", x.pair(3, 0, what), 1);
            refused(x, "pair(3, 3, what)", x.pair(3, 3, what), 1);
            refused(x, "pair(-1, 0, what)", x.pair(-1, 0, what), 1);
        }
        refused(x, "pair(0, 1, 3)", x.pair(0, 1, 3), 1);
        refused(x, "pair(0, 1, -1)", x.pair(0, 1, -1), 1);
        refused(x, "pair(1, 1, 3)", x.pair(1, 1, 3), 1);
    }

    private static void cost(int p) {
        HeapBench x = twoPairs();
        due("cost(0)", x.cost(0), (9 + 16 + 400) * 27720 / 4);
        due("cost(1)", x.cost(1), 3 + 10 + 10);
        due("cost(2)", x.cost(2), 10);
        due("cost(3)", x.cost(3), 0);
        x.put(2, 1);
        due("cost(0)", x.cost(0), (9 + 100 + 100) * 27720 / 3);
        due("cost(1)", x.cost(1), 13);
        x.put(3, 1);
        due("cost(0)", x.cost(0), 9 * 27720 / 2 + 16 * 27720 / 2);
        due("cost(1)", x.cost(1), 7);
        due("cost(2)", x.cost(2), 4);
        x.quarrel(0, 1, 1, false);
        x.quarrel(2, 3, 10, true);
        x.quarrel(0, 2, 100, true);
        x.quarrel(1, 3, 1000, false);
        due("cost(3): UNLIKE in one, LIKE in two", x.cost(3), 101);
        x.of(0);
        due("cost(3): all in one", x.cost(3), 1001);
        x.of(14);
        due("cost(3): all alone", x.cost(3), 110);
        for (int goal = 0; goal < 3; goal++) {
            due("cost(goal): all alone", x.cost(goal), 0);
        }
        refused(x, "cost(4)", x.cost(4), 1);
        refused(x, "cost(-1)", x.cost(-1), 1);
        HeapBench y = with(12);
        for (int a = 0; a < 12; a++) {
            for (int b = 0; b < a; b++) {
                y.way(a, b, 10000);
            }
        }
        due("cost(0) of the longest ways", y.cost(0), 66L * 100000000 * 27720 / 12);
        due("cost(1) of the longest ways", y.cost(1), 110000);
        y.put(11, 1);
        due("cost(0) of eleven", y.cost(0), 55L * 100000000 * 27720 / 11);
    }

    private static void middle(int p) {
        HeapBench x = twoPairs();
        due("middle(0): of equal ones the least", x.middle(0), 0);
        x.way(0, 3, 11);
        due("middle(0)", x.middle(0), 1);
        x.put(1, 1);
        due("middle(0)", x.middle(0), 2);
        due("middle(1): alone", x.middle(1), 1);
        refused(x, "middle(2)", x.middle(2), 1);
        refused(x, "middle(-1)", x.middle(-1), 1);
        refused(x, "middle(greatest)", x.middle(GREATEST), 1);
    }

    private static void best(int p) {
        HeapBench x = twoPairs();
        due("best(0, 1)", x.best(0, 1), (9 + 16 + 400) * 27720 / 4);
        named(x, "best(0, 1)", "0000");
        due("best(0, 2)", x.best(0, 2), 25 * 27720 / 2);
        named(x, "best(0, 2)", "0011");
        due("best(1, 2)", x.best(1, 2), 7);
        due("best(2, 3)", x.best(2, 3), 3);
        named(x, "best(2, 3)", "0012");
        due("best(1, 4)", x.best(1, 4), 0);
        due("best(2, 0)", x.best(2, 0), 0);
        named(x, "best(2, 0)", "0123");
        due("count(2)", x.count(2), 13);
        refused(x, "best(4, 2)", x.best(4, 2), 1);
        refused(x, "best(-1, 2)", x.best(-1, 2), 1);
        refused(x, "best(0, 5)", x.best(0, 5), 1);
        refused(x, "best(0, -1)", x.best(0, -1), 1);
        named(x, "refusals", "0123");
        x.way(1, 3, 0);
        due("best(0, 0): least RANK of cost 0", x.best(0, 0), 0);
        named(x, "best(0, 0)", "0121");
        bestIsNotMonotone();
        HeapBench y = with(10);
        for (int goal = 0; goal < 4; goal++) {
            refused(y, "best(goal, 2) of ten", y.best(goal, 2), 3);
            refused(y, "best(goal, 11) of ten", y.best(goal, 11), 1);
        }
        refused(y, "best(4, 2) of ten", y.best(4, 2), 1);
        y.things(9);
        for (int goal = 0; goal < 4; goal++) {
            due("best(goal, 0): all alike", y.best(goal, 0), 0);
            named(y, "best(goal, 0)", "000000000");
            due("best(goal, 3): all alike", y.best(goal, 3), 0);
            named(y, "best(goal, 3)", "000000012");
        }
    }

    /** Ways need not keep to triangles, so a heap may cost less with one thing more. */
    private static void bestIsNotMonotone() {
        HeapBench x = with(4);
        x.way(0, 1, 100);
        x.way(0, 3, 90);
        x.way(1, 3, 90);
        x.way(2, 3, 200);
        due("best(1, 2)", x.best(1, 2), 0);
        named(x, "best(1, 2)", "0001");
        due("best(0, 2)", x.best(0, 2), 10000 * 27720 / 3);
        named(x, "best(0, 2)", "0001");
        x.quarrel(0, 1, 5, true);
        x.quarrel(1, 2, 4, true);
        x.quarrel(0, 2, 3, false);
        x.quarrel(0, 3, 7, false);
        due("best(3, 0)", x.best(3, 0), 3);
        named(x, "best(3, 0)", "0001");
        due("best(3, 3)", x.best(3, 3), 4);
        named(x, "best(3, 3)", "0012");
    }

    private static void line(int p) {
        HeapBench x = with(5);
        place(x, 0, 11, 500);
        place(x, 1, 0, -500);
        place(x, 2, 10);
        place(x, 3, 2);
        place(x, 4, 1);
        x.way(0, 1, 77);
        due("line(0, 2)", x.line(0, 2), 27720 / 2 + (1 + 1 + 4) * 27720 / 3);
        named(x, "line(0, 2)", "01011");
        due("pair(0, 1, 0): WAYS stay", x.pair(0, 1, 0), 77);
        due("line(1, 2)", x.line(1, 2), 3);
        due("line(2, 1)", x.line(2, 1), 11);
        due("line(2, 3): least RANK", x.line(2, 3), 1);
        named(x, "line(2, 3)", "01021");
        due("line(0, 5)", x.line(0, 5), 0);
        named(x, "line(0, 5)", "01234");
        refused(x, "line(3, 2)", x.line(3, 2), 1);
        refused(x, "line(-1, 2)", x.line(-1, 2), 1);
        refused(x, "line(0, 0)", x.line(0, 0), 1);
        refused(x, "line(0, 6)", x.line(0, 6), 1);
        refused(x, "line(0, least)", x.line(0, LEAST), 1);
        named(x, "refusals", "01234");
        HeapBench y = with(12);
        due("line(0, 6) of one point", y.line(0, 6), 0);
        named(y, "line(0, 6)", "000000012345");
        place(y, 11, -1000);
        place(y, 0, 1000);
        due("line(2, 2)", y.line(2, 2), 1000);
        named(y, "line(2, 2)", "000000000001");
        due("line(1, 1)", y.line(1, 1), 2000);
        lineOfEqualOnes();
    }

    /** Things 5 and 6 stand at one point, so only their numbers tell which of them may go with 4. */
    private static void lineOfEqualOnes() {
        HeapBench x = with(7);
        int[] firsts = {500, 600, 900, 1000, 10, 0, 0};
        for (int i = 0; i < 7; i++) {
            place(x, i, firsts[i]);
        }
        due("line(2, 4)", x.line(2, 4), 100);
        named(x, "line(2, 4): the less number ahead", "0011232");
    }

    private static void better(int p) {
        HeapBench x = with(3);
        x.way(0, 1, 1);
        x.way(0, 2, 5);
        x.way(1, 2, 5);
        due("better(2)", x.better(2), 2);
        named(x, "better(2): 2 goes, then 0", "012");
        due("count(2): one change", x.count(2), 5);
        due("better(2) again", x.better(2), 0);
        due("count(2): a change too", x.count(2), 6);
        x.undo();
        due("undo()", x.undo(), 4);
        named(x, "undo() of all moves", "000");
        due("better(2) where no single move is enough", twoPairs().better(2), 0);
        refused(x, "better(4)", x.better(4), 1);
        refused(x, "better(-1)", x.better(-1), 1);
        HeapBench y = with(3);
        y.quarrel(0, 1, 5, false);
        y.quarrel(1, 2, 5, false);
        y.quarrel(0, 2, 9, true);
        due("better(3)", y.better(3), 1);
        named(y, "better(3): thing 1 to a new heap", "010");
        due("of(4)", y.of(4), true);
        due("better(3): 0 to the heap of 2", y.better(3), 1);
        named(y, "better(3)", "010");
        HeapBench z = with(4);
        z.quarrel(0, 1, 5, false);
        z.quarrel(2, 3, 5, false);
        due("better(3)", z.better(3), 2);
        named(z, "better(3): 0 goes, then 2 to it", "0101");
    }

    private static void two(int p) {
        HeapBench x = twoPairs();
        due("two()", x.two(), 4);
        named(x, "two()", "0011");
        x.way(0, 3, 2);
        x.way(1, 2, 2);
        due("two()", x.two(), 2);
        named(x, "two()", "0110");
        due("count(2)", x.count(2), 11);
        HeapBench t = with(3);
        t.way(0, 1, 5);
        t.way(0, 2, 5);
        due("two()", t.two(), 0);
        named(t, "two()", "011");
        t.way(1, 2, 5);
        due("two(): least RANK", t.two(), 5);
        named(t, "two()", "000");
        HeapBench y = with(12);
        due("two() of twelve alike", y.two(), 0);
        due("count(1): one heap", y.count(1), 1);
        for (int a = 0; a < 12; a++) {
            for (int b = 0; b < a; b++) {
                y.way(a, b, (a - b) % 2 == 0 ? 1 : 100);
            }
        }
        due("two() of odd and even", y.two(), 1);
        named(y, "two()", "010101010101");
        due("two() of one", new HeapBench().two(), 0);
    }

    private static void centres(int p) {
        HeapBench x = with(5);
        for (int i = 0; i < 5; i++) {
            place(x, i, new int[] {0, 4, 9, 10, 5}[i]);
        }
        x.measure(0);
        due("centres(1)", x.centres(1), 10);
        named(x, "centres(1)", "00000");
        due("centres(2): of equal ones the earliest", x.centres(2), 5);
        named(x, "centres(2)", "00110");
        due("centres(3)", x.centres(3), 1);
        named(x, "centres(3)", "01221");
        due("centres(5)", x.centres(5), 0);
        named(x, "centres(5)", "01234");
        refused(x, "centres(0)", x.centres(0), 1);
        refused(x, "centres(6)", x.centres(6), 1);
        refused(x, "centres(least)", x.centres(LEAST), 1);
        HeapBench y = with(12);
        due("centres(12) of one point", y.centres(12), 0);
        due("count(1)", y.count(1), 1);
        HeapBench z = with(3);
        z.way(0, 1, 5);
        z.way(0, 2, 5);
        z.way(1, 2, 5);
        due("centres(2): of equal ones the least", z.centres(2), 5);
        named(z, "centres(2)", "010");
    }

    private static void third(int p) {
        HeapBench x = with(3);
        x.quarrel(0, 1, 5, true);
        x.quarrel(1, 2, 4, true);
        x.quarrel(0, 2, 3, false);
        due("third(0)", x.third(0), 3);
        named(x, "third(0): 1 is first", "000");
        due("third(5)", x.third(5), 4);
        named(x, "third(5)", "001");
        due("count(2)", x.count(2), 6);
        for (int seed : new int[] {LEAST, -1, 1, 77, 123456789, GREATEST}) {
            thirdOf(seed);
        }
        HeapBench y = with(3);
        y.quarrel(0, 1, 0, true);
        due("third(1): LIKE of weight 0", y.third(1), 0);
        named(y, "third(1)", "012");
        due("third(1) of one", new HeapBench().third(1), 0);
    }

    /** A chain of likes, parted along the order that the document tells. */
    private static void thirdOf(int seed) {
        HeapBench x = with(12);
        for (int i = 1; i < 12; i++) {
            x.quarrel(i - 1, i, i, true);
        }
        int[] order = {0, 1, 2, 3, 4, 5, 6, 7, 8, 9, 10, 11};
        int r = seed;
        for (int i = 11; i >= 1; i--) {
            r = r * 1103515245 + 12345;
            int j = (r >>> 16) % (i + 1);
            int at = order[i];
            order[i] = order[j];
            order[j] = at;
        }
        int[] pivot = new int[12];
        java.util.Arrays.fill(pivot, -1);
        for (int first : order) {
            for (int t = first - 1; pivot[first] < 0 && t <= first + 1; t++) {
                if (t >= 0 && t < 12 && t != first && pivot[t] < 0) {
                    pivot[t] = first;
                }
            }
            pivot[first] = pivot[first] < 0 ? first : pivot[first];
        }
        long cost = 0;
        for (int i = 1; i < 12; i++) {
            cost += pivot[i - 1] == pivot[i] ? 0 : i;
        }
        due("third(" + seed + ")", x.third(seed), cost);
        for (int a = 0; a < 12; a++) {
            for (int b = 0; b < a; b++) {
                due("third(" + seed + "): " + a + " with " + b, x.heap(a) == x.heap(b), pivot[a] == pivot[b]);
            }
        }
    }

    private static void thirds(int p) {
        HeapBench x = with(3);
        x.quarrel(0, 1, 5, true);
        x.quarrel(1, 2, 4, true);
        x.quarrel(0, 2, 3, false);
        x.put(2, 1);
        due("thirds()", x.thirds(), 4 + 4 + 3 + 3 + 5 + 5);
        named(x, "thirds(): THE PARTING stays", "001");
        due("count(2): no change", x.count(2), 5);
        HeapBench y = with(8);
        refused(y, "thirds() of eight", y.thirds(), 3);
        y.things(7);
        due("thirds() of seven alike", y.thirds(), 0);
        y.quarrel(5, 6, 2, false);
        due("thirds(): never together", y.thirds(), 0);
        y.quarrel(0, 1, 7, true);
        y.quarrel(1, 2, 7, true);
        due("thirds(): one of three likes", y.thirds(), 5040L * 7 * 2 / 3);
        due("thirds() of one", new HeapBench().thirds(), 0);
    }

    private static void rounds(int p) {
        HeapBench x = with(4);
        due("rounds()", x.rounds(), 0);
        x.quarrel(0, 1, 5, true);
        x.quarrel(1, 2, 4, true);
        x.quarrel(0, 2, 3, false);
        due("rounds()", x.rounds(), 1);
        x.quarrel(0, 3, 1, true);
        x.quarrel(1, 3, 1, true);
        due("rounds(): three LIKE are none", x.rounds(), 1);
        x.quarrel(2, 3, 1, true);
        due("rounds()", x.rounds(), 2);
        x.quarrel(0, 1, 0, true);
        due("rounds(): weight 0", x.rounds(), 1);
        x.quarrel(0, 3, 1, false);
        due("rounds(): one LIKE, two UNLIKE", x.rounds(), 0);
        due("rounds() of one", new HeapBench().rounds(), 0);
    }

    private static void tree(int p) {
        HeapBench x = twoPairs();
        int changes = x.count(2);
        due("tree(0)", x.tree(0), 3);
        due("count(2): no change", x.count(2), changes);
        refused(x, "tree(2)", x.tree(2), 1);
        refused(x, "tree(-1)", x.tree(-1), 1);
        due("count(3): the TREE stays", x.count(3), 3);
        HeapBench y = with(4);
        for (int i = 0; i < 4; i++) {
            place(y, i, new int[] {0, 2, 4, 6}[i]);
        }
        y.measure(0);
        due("tree(0): the nearest", y.tree(0), 3);
        joins(y, "0 1 2, 0 2 2, 0 3 2");
        due("tree(1): the widest", y.tree(1), 3);
        joins(y, "0 1 2, 2 3 2, 0 2 6");
        y.way(0, 1, 3);
        due("tree(1)", y.tree(1), 3);
        joins(y, "1 2 2, 0 1 4, 0 3 6");
        due("tree(0) of one", new HeapBench().tree(0), 0);
        due("tree(1) of twelve", with(12).tree(1), 11);
    }

    private static void joins(HeapBench x, String want) {
        StringBuilder got = new StringBuilder();
        for (int i = 0; i < x.count(3); i++) {
            got.append(i > 0 ? ", " : "").append(x.joined(i, 0));
            got.append(' ').append(x.joined(i, 1)).append(' ').append(x.joined(i, 2));
        }
        asked++;
        if (!got.toString().equals(want)) {
            wrong++;
            System.out.println("promise " + promise + ": joins are " + got + ", due is " + want);
        }
    }

    private static void joined(int p) {
        HeapBench x = twoPairs();
        refused(x, "joined(0, 0) without", x.joined(0, 0), 2);
        refused(x, "joined(-1, 7) without: asked ahead", x.joined(-1, 7), 2);
        x.tree(0);
        joins(x, "0 1 3, 2 3 4, 0 2 10");
        refused(x, "joined(3, 0)", x.joined(3, 0), 1);
        refused(x, "joined(-1, 0)", x.joined(-1, 0), 1);
        refused(x, "joined(0, 3)", x.joined(0, 3), 1);
        refused(x, "joined(0, -1)", x.joined(0, -1), 1);
        refused(x, "joined(greatest, least)", x.joined(GREATEST, LEAST), 1);
        x.way(0, 1, 50);
        due("joined(0, 2): the TREE as it was", x.joined(0, 2), 3);
        HeapBench y = new HeapBench();
        y.tree(0);
        refused(y, "joined(0, 0) of no joins", y.joined(0, 0), 1);
    }

    private static void height(int p) {
        HeapBench x = twoPairs();
        refused(x, "height(0, 1) without", x.height(0, 1), 2);
        refused(x, "height(1, 1) without", x.height(1, 1), 2);
        refused(x, "height(4, 1) without: the least fault", x.height(4, 1), 1);
        refused(x, "height(1, -1) without: the least fault", x.height(1, -1), 1);
        x.way(1, 3, 8);
        x.tree(0);
        due("height(1, 0)", x.height(1, 0), 3);
        due("height(2, 3)", x.height(2, 3), 4);
        due("height(0, 2)", x.height(0, 2), 8);
        due("height(3, 3)", x.height(3, 3), 0);
        refused(x, "height(0, 4)", x.height(0, 4), 1);
        refused(x, "height(-1, 0)", x.height(-1, 0), 1);
        x.tree(1);
        due("height(3, 1)", x.height(3, 1), 10);
    }

    private static void cut(int p) {
        HeapBench x = twoPairs();
        refused(x, "cut(3) without", x.cut(3), 2);
        x.tree(0);
        int changes = x.count(2);
        due("cut(2)", x.cut(2), 4);
        named(x, "cut(2)", "0123");
        due("cut(3)", x.cut(3), 3);
        named(x, "cut(3)", "0012");
        due("cut(9)", x.cut(9), 2);
        named(x, "cut(9)", "0011");
        due("cut(10)", x.cut(10), 1);
        due("cut(least)", x.cut(LEAST), 4);
        due("cut(greatest)", x.cut(GREATEST), 1);
        due("count(2)", x.count(2), changes + 6);
        due("count(3): the TREE stays", x.count(3), 3);
        x.undo();
        refused(x, "cut(3) behind undo()", x.cut(3), 2);
        named(x, "undo()", "0123");
    }

    private static void many(int p) {
        HeapBench x = new HeapBench();
        long[] all = {1, 1, 2, 5, 15, 52, 203, 877, 4140, 21147, 115975, 678570, 4213597};
        for (int n = 0; n <= 12; n++) {
            due("many(n, 0)", x.many(n, 0), all[n]);
            long sum = 0;
            for (int k = 1; k <= 12; k++) {
                sum += x.many(n, k);
            }
            due("sum of many(n, k)", sum, n == 0 ? 0 : all[n]);
            if (n > 0) {
                due("many(n, 1)", x.many(n, 1), 1);
                due("many(n, n)", x.many(n, n), 1);
                due("many(n, 2)", x.many(n, 2), (1L << n - 1) - 1);
            }
        }
        due("many(0, 1)", x.many(0, 1), 0);
        due("many(3, 12)", x.many(3, 12), 0);
        due("many(12, 5)", x.many(12, 5), 1379400);
        due("many(4, 2)", x.many(4, 2), 7);
        due("many(9, 3)", x.many(9, 3), 3025);
        refused(x, "many(13, 1)", x.many(13, 1), 1);
        refused(x, "many(1, 13)", x.many(1, 13), 1);
        refused(x, "many(-1, 1)", x.many(-1, 1), 1);
        refused(x, "many(1, -1)", x.many(1, -1), 1);
        refused(x, "many(13, 0)", x.many(13, 0), 1);
        refused(x, "many(greatest, least)", x.many(GREATEST, LEAST), 1);
    }

    private static void rank(int p) {
        HeapBench x = with(4);
        String[] inOrder = {"0000", "0001", "0010", "0011", "0012", "0100", "0101", "0102",
            "0110", "0111", "0112", "0120", "0121", "0122", "0123"};
        for (int r = 0; r < inOrder.length; r++) {
            for (int i = 0; i < 4; i++) {
                x.tell(inOrder[r].charAt(i) - '0');
            }
            x.load();
            due("rank() of " + inOrder[r], x.rank(), r);
        }
        due("rank() of one", new HeapBench().rank(), 0);
        HeapBench y = with(12);
        due("rank() of the first", y.rank(), 0);
        for (int i = 1; i < 12; i++) {
            y.put(i, i);
        }
        due("rank() of the last", y.rank(), 4213596);
    }

    private static void of(int p) {
        HeapBench x = with(4);
        String[] some = {"0000", "0001", "0010", "0011", "0012", "0100"};
        for (int r = 0; r < some.length; r++) {
            due("of(r)", x.of(r), true);
            named(x, "of(" + r + ")", some[r]);
        }
        due("of(14)", x.of(14), true);
        due("count(1)", x.count(1), 4);
        int changes = x.count(2);
        due("of(14) again", x.of(14), true);
        due("count(2)", x.count(2), changes + 1);
        refused(x, "of(15)", x.of(15), 1);
        refused(x, "of(-1)", x.of(-1), 1);
        refused(x, "of(least)", x.of(Long.MIN_VALUE), 1);
        refused(x, "of(greatest)", x.of(Long.MAX_VALUE), 1);
        refused(x, "of(2 ^ 32)", x.of(1L << 32), 1);
        named(x, "refusals", "0123");
        for (int n = 1; n <= 12; n++) {
            // an object of its own for each n: none is used for more than 512 calls
            HeapBench y = with(n);
            long all = y.many(n, 0);
            for (long r = 0; r < all; r += 1 + all / 50) {
                due("of(r)", y.of(r), true);
                due("rank() behind of(r)", y.rank(), r);
            }
            due("of(last)", y.of(all - 1), true);
            due("count(1)", y.count(1), n);
            refused(y, "of(all)", y.of(all), 1);
        }
    }

    private static void keep(int p) {
        HeapBench x = with(3);
        for (int k = 0; k < 4; k++) {
            x.of(k);
            due("keep(k)", x.keep(k), true);
        }
        x.of(4);
        int changes = x.count(2);
        for (int k = 0; k < 4; k++) {
            due("differ(k)", x.differ(k), k == 0 ? 3 : 1);
        }
        refused(x, "keep(4)", x.keep(4), 1);
        refused(x, "keep(-1)", x.keep(-1), 1);
        refused(x, "keep(least)", x.keep(LEAST), 1);
        due("keep(0) anew", x.keep(0), true);
        due("differ(0)", x.differ(0), 0);
        due("count(2): no change", x.count(2), changes);
        x.undo();
        due("differ(0): undo() leaves KEEPS", x.differ(0), 1);
    }

    private static void differ(int p) {
        HeapBench x = with(4);
        refused(x, "differ(0), empty", x.differ(0), 2);
        refused(x, "differ(4)", x.differ(4), 1);
        refused(x, "differ(-1)", x.differ(-1), 1);
        x.of(5);
        x.keep(3);
        due("differ(3)", x.differ(3), 0);
        x.of(3);
        due("differ(3)", x.differ(3), 3);
        x.of(0);
        due("differ(3)", x.differ(3), 3);
        x.of(14);
        due("differ(3)", x.differ(3), 3);
        x.things(5);
        refused(x, "differ(3) of other things", x.differ(3), 2);
        x.things(3);
        refused(x, "differ(3) of other things", x.differ(3), 2);
        x.things(4);
        due("differ(3)", x.differ(3), 3);
    }

    private static void both(int p) {
        HeapBench x = with(4);
        refused(x, "both(1), empty", x.both(1), 2);
        refused(x, "both(4)", x.both(4), 1);
        refused(x, "both(-1)", x.both(-1), 1);
        x.of(5);
        x.keep(1);
        x.of(3);
        int changes = x.count(2);
        due("both(1)", x.both(1), 3);
        named(x, "both(1)", "0122");
        due("count(2)", x.count(2), changes + 1);
        x.of(0);
        due("both(1): within one heap", x.both(1), 2);
        named(x, "both(1)", "0100");
        x.of(14);
        due("both(1): all alone", x.both(1), 4);
        x.things(5);
        refused(x, "both(1) of other things", x.both(1), 2);
        HeapBench y = with(12);
        list(y, 0, 1, 2, 0, 1, 2, 0, 1, 2, 0, 1, 2);
        y.load();
        y.keep(0);
        list(y, 0, 1, 2, 3, 0, 1, 2, 3, 0, 1, 2, 3);
        y.load();
        due("both(0): all alone", y.both(0), 12);
        named(y, "both(0)", "0123456789ab");
    }

    private static void tell(int p) {
        HeapBench x = new HeapBench();
        refused(x, "tell(-1)", x.tell(-1), 1);
        refused(x, "tell(12)", x.tell(12), 1);
        refused(x, "tell(least)", x.tell(LEAST), 1);
        for (int i = 0; i < 12; i++) {
            due("tell(i)", x.tell(11 - i), i + 1);
        }
        refused(x, "tell(0): there are 12", x.tell(0), 1);
        due("count(4)", x.count(4), 12);
        due("count(2): no change", x.count(2), 0);
        x.things(12);
        due("load()", x.load(), 12);
        due("tell(11)", x.tell(11), 1);
        x.undo();
        due("count(4): undo() leaves THE LIST", x.count(4), 1);
    }

    private static void check(int p) {
        HeapBench x = twoPairs();
        x.quarrel(0, 2, 6, true);
        due("check(0, 0) of none", x.check(0, 0), 0);
        list(x, 9, 9, 3);
        due("check(0, 0) of three", x.check(0, 0), 0);
        due("count(4): empty", x.count(4), 0);
        list(x, 9, 9, 3, 3, 3);
        due("check(0, 0) of five", x.check(0, 0), 0);
        long[] costs = {25 * 27720 / 2, 7, 4, 6};
        for (int goal = 0; goal < 4; goal++) {
            list(x, 11, 11, 0, 0);
            due("check(goal, cost)", x.check(goal, costs[goal]), 2);
            list(x, 11, 11, 0, 0);
            due("check(goal, cost + 1)", x.check(goal, costs[goal] + 1), 1);
            list(x, 11, 11, 0, 0);
            due("check(goal, cost + 2 ^ 32)", x.check(goal, costs[goal] + (1L << 32)), 1);
            due("count(4): empty", x.count(4), 0);
        }
        list(x, 1, 2, 1, 2);
        int changes = x.count(2);
        refused(x, "check(4, 0)", x.check(4, 0), 1);
        refused(x, "check(-1, 0)", x.check(-1, 0), 1);
        due("count(4): THE LIST stays", x.count(4), 4);
        due("check(2, 10)", x.check(2, 10), 2);
        due("count(2): no change", x.count(2), changes);
        named(x, "check(): THE PARTING stays", "0000");
        list(x, 1);
        due("check(1, -1) of one", new HeapBench().check(1, -1), 0);
    }

    private static void load(int p) {
        HeapBench x = with(3);
        refused(x, "load() of none", x.load(), 1);
        list(x, 7, 2);
        refused(x, "load() of two", x.load(), 1);
        due("count(4): THE LIST stays", x.count(4), 2);
        list(x, 7);
        int changes = x.count(2);
        due("load()", x.load(), 2);
        named(x, "load()", "010");
        due("count(2)", x.count(2), changes + 1);
        due("count(4): empty", x.count(4), 0);
        due("undo()", x.undo(), changes);
        named(x, "undo()", "000");
        due("count(4): undo() brings no LIST", x.count(4), 0);
        list(x, 11, 10, 9, 8);
        refused(x, "load() of four", x.load(), 1);
        x.things(4);
        due("load()", x.load(), 4);
        named(x, "load()", "0123");
    }

    private static void undo(int p) {
        HeapBench x = new HeapBench();
        refused(x, "undo()", x.undo(), 2);
        x.things(3);
        x.way(0, 1, 5);
        x.quarrel(0, 1, 6, true);
        place(x, 2, 8);
        x.measure(0);
        x.put(2, 1);
        x.tree(0);
        due("undo() of put()", x.undo(), 5);
        named(x, "undo()", "000");
        due("count(3): no TREE", x.count(3), -1);
        due("pair(0, 2, 0)", x.pair(0, 2, 0), 8);
        due("undo() of measure()", x.undo(), 4);
        due("pair(0, 2, 0)", x.pair(0, 2, 0), 0);
        due("pair(0, 1, 0)", x.pair(0, 1, 0), 5);
        due("undo() of lay()", x.undo(), 3);
        due("undo() of quarrel()", x.undo(), 2);
        due("pair(0, 1, 1)", x.pair(0, 1, 1), 0);
        due("pair(0, 1, 2)", x.pair(0, 1, 2), 0);
        due("undo() of way()", x.undo(), 1);
        due("pair(0, 1, 0)", x.pair(0, 1, 0), 0);
        due("undo() of things()", x.undo(), 0);
        due("count(0)", x.count(0), 1);
        x.tree(0);
        refused(x, "undo()", x.undo(), 2);
        due("count(3): a refused undo() leaves the TREE", x.count(3), 0);
        undoTwenty();
        undoEachChange();
    }

    private static void undoTwenty() {
        HeapBench x = with(2);
        for (int v = 1; v <= 47; v++) {
            x.way(0, 1, v);
        }
        for (int left = 19; left >= 0; left--) {
            due("undo()", x.undo(), left);
            due("pair(0, 1, 0)", x.pair(0, 1, 0), 27 + left);
        }
        refused(x, "undo() of more than 20", x.undo(), 2);
        due("pair(0, 1, 0)", x.pair(0, 1, 0), 27);
        x.way(0, 1, 99);
        due("undo()", x.undo(), 0);
        due("pair(0, 1, 0)", x.pair(0, 1, 0), 27);
    }

    private static void undoEachChange() {
        HeapBench x = twoPairs();
        x.keep(0);
        for (int call = 0; call < 11; call++) {
            x.of(13);
            x.tree(0);
            list(x, 0, 0, 1, 1);
            int changes = x.count(2);
            changeBy(x, call);
            due("count(2) behind change " + call, x.count(2), Math.min(20, changes + 1));
            due("undo() of change " + call, x.undo(), Math.min(19, changes));
            named(x, "undo() of change " + call, "0122");
            x.check(0, 0);
        }
    }

    private static void changeBy(HeapBench x, int call) {
        switch (call) {
            case 0: x.put(0, 1); break;
            case 1: x.best(0, 2); break;
            case 2: x.line(0, 2); break;
            case 3: x.better(0); break;
            case 4: x.two(); break;
            case 5: x.centres(2); break;
            case 6: x.cut(3); break;
            case 7: x.of(1); break;
            case 8: x.both(0); break;
            case 9: x.third(4); break;
            default: x.load(); break;
        }
    }

    private static void fault(int p) {
        HeapBench x = new HeapBench();
        due("fault()", x.fault(), 0);
        x.things(0);
        due("fault()", x.fault(), 1);
        due("fault() again", x.fault(), 1);
        x.rank();
        due("fault() behind a call that was not refused", x.fault(), 0);
        x.undo();
        due("fault()", x.fault(), 2);
        x.things(10);
        due("fault()", x.fault(), 0);
        x.best(0, 1);
        due("fault()", x.fault(), 3);
        x.thirds();
        due("fault()", x.fault(), 3);
        x.sheet(0, -1);
        due("fault()", x.fault(), 4);
        for (int call = 0; call < 37; call++) {
            x.things(0);
            if (notRefused(x, call)) {
                due("fault() behind call " + call, x.fault(), 0);
            }
        }
    }

    /** Each call that can be made now, without a refusal. */
    private static boolean notRefused(HeapBench x, int call) {
        switch (call) {
            case 0: x.things(2); return true;
            case 1: x.way(0, 1, 1); return true;
            case 2: x.sheet(0, 1); return true;
            case 3: x.entry(0, 1); return true;
            case 4: x.lay(0); return true;
            case 5: x.measure(0); return true;
            case 6: x.quarrel(0, 1, 1, true); return true;
            case 7: x.put(0, 1); return true;
            case 8: x.count(0); return true;
            case 9: x.heap(0); return true;
            case 10: x.pair(0, 1, 0); return true;
            case 11: x.cost(0); return true;
            case 12: x.middle(0); return true;
            case 13: x.best(0, 1); return true;
            case 14: x.line(0, 1); return true;
            case 15: x.better(0); return true;
            case 16: x.two(); return true;
            case 17: x.centres(1); return true;
            case 18: x.third(1); return true;
            case 19: x.thirds(); return true;
            case 20: x.rounds(); return true;
            case 21: x.tree(0); return true;
            case 22: x.joined(0, 0); return true;
            case 23: x.height(0, 1); return true;
            case 24: x.cut(0); return true;
            case 25: x.many(1, 1); return true;
            case 26: x.rank(); return true;
            case 27: x.of(0); return true;
            case 28: x.keep(0); return true;
            case 29: x.differ(0); return true;
            case 30: x.both(0); return true;
            case 31: x.tell(0); return true;
            case 32: x.check(0, 0); return true;
            case 33: x.tell(0); x.tell(0); x.things(0); x.load(); return true;
            case 34: x.undo(); return true;
            default: return false;
        }
    }
}
