import java.lang.reflect.Method;
import java.math.BigInteger;
import java.util.ArrayDeque;
import java.util.ArrayList;
import java.util.Arrays;
import java.util.Collections;
import java.util.List;
import java.util.Random;
import java.util.TreeSet;

// Long runs of mixed calls, right and wrong ones, each against a slow bench that does the document's
// words in the plainest way: all partings are listed, all orders tried, every cost told from its words.
public final class OracleTest {
    private static final int RUNS = 3000;
    private static final int MOST_CALLS = 512;
    private static final int CALLABLE = 39;
    private static final int[] ODD = {Integer.MIN_VALUE, -1, 12, 13, Integer.MAX_VALUE, 1 << 30, -32};

    public static void main(String[] args) {
        int wrong = 0;
        long asked = 0;
        for (int run = 1; run <= RUNS && wrong < 10; run++) {
            Run r = new Run(run);
            wrong += r.go() ? 0 : 1;
            asked += r.calls;
        }
        System.out.println(asked + " calls in " + RUNS + " runs, " + wrong + " runs not as due");
        Sweep sweep = new Sweep();
        sweep.go();
        wrong += sweep.wrong;
        System.out.println(sweep.asked + " calls at edges, " + sweep.wrong + " not as due");
        if (wrong != 0) {
            System.exit(1);
        }
    }

    /** One run of calls on a new object, told again from its start if an answer is not as due. */
    private static final class Run {
        final int number;
        final Random random;
        final HeapBench real = new HeapBench();
        final Slow slow = new Slow();
        final List<String> told = new ArrayList<>();
        final int mostThings;
        final int range;
        int calls = 0;

        Run(int number) {
            this.number = number;
            random = new Random(number * 7919L);
            mostThings = number % 4 == 0 ? 12 : number % 10 == 1 ? 9 : number % 3 == 0 ? 7 : 6;
            range = new int[] {2, 4, 12, 1000}[random.nextInt(4)];
        }

        boolean go() {
            boolean fine = begin();
            while (fine && calls < MOST_CALLS) {
                fine = call(random.nextInt(CALLABLE)) && (random.nextInt(40) > 0 || sameState());
            }
            for (String line : fine ? new ArrayList<String>() : told) {
                System.out.println("  " + line);
            }
            return fine;
        }

        /** Things with ways by places or by no rule at all, and with quarrels; at times just a new object. */
        boolean begin() {
            int n = 2 + random.nextInt(mostThings - 1);
            boolean fine = random.nextInt(20) == 0 || same("things(" + n + ")", real.things(n), slow.things(n));
            boolean byPlaces = random.nextBoolean();
            for (int a = 0; fine && a < slow.n; a++) {
                for (int b = 0; fine && b < a; b++) {
                    fine = (byPlaces || wayOf(a, b)) && quarrelOf(a, b);
                }
                fine = fine && (!byPlaces && random.nextInt(3) > 0 || placeOf(a));
            }
            return fine && (!byPlaces || callThings(5)) && sameState();
        }

        boolean wayOf(int a, int b) {
            int v = random.nextInt(range + 1);
            return same("way(" + a + ", " + b + ", " + v + ")", real.way(a, b, v), slow.way(a, b, v));
        }

        boolean quarrelOf(int a, int b) {
            int weight = random.nextInt(4) == 0 ? 0 : random.nextInt(range + 1);
            boolean like = random.nextInt(3) > 0;
            return same("quarrel(" + a + ", " + b + ", " + weight + ", " + like + ")",
                    real.quarrel(a, b, weight, like), slow.quarrel(a, b, weight, like));
        }

        boolean placeOf(int a) {
            int kind = random.nextInt(5);
            int m = 1 + random.nextInt(4);
            boolean fine = same("sheet(" + kind + ", " + m + ")", real.sheet(kind, m), slow.sheet(kind, m));
            for (int i = 0; fine && i < m; i++) {
                long e = random.nextInt(2 * range + 1) - range;
                fine = same("entry(" + i + ", " + e + ")", real.entry(i, e), slow.entry(i, e));
            }
            return fine && same("lay(" + a + ")", real.lay(a), slow.lay(a));
        }

        int odd() {
            return ODD[random.nextInt(ODD.length)];
        }

        /** A number below a bound, or now and then one that can't be. */
        int below(int bound) {
            return random.nextInt(25) == 0 ? odd() : random.nextInt(25) == 0 ? bound : random.nextInt(Math.max(1, bound));
        }

        int things() {
            return below(slow.n);
        }

        boolean same(String call, long got, long due) {
            if (calls >= MOST_CALLS) {
                return true;
            }
            calls++;
            told.add(call + " answered " + got);
            if (got == due && (calls == MOST_CALLS || slow.fault == 0 && random.nextInt(4) > 0)) {
                return true;
            }
            calls++;
            int fault = real.fault();
            if (got == due && fault == slow.fault) {
                return true;
            }
            told.add("run " + number + ": due is " + due + ", fault() " + slow.fault + ", and fault() was " + fault);
            return false;
        }

        boolean same(String call, boolean got, boolean due) {
            return same(call, got ? 1 : 0, due ? 1 : 0);
        }

        boolean sameState() {
            boolean fine = true;
            for (int what = 0; what < 6; what++) {
                fine = fine && same("count(" + what + ")", real.count(what), slow.count(what));
            }
            for (int a = 0; a < slow.n; a++) {
                fine = fine && same("heap(" + a + ")", real.heap(a), slow.heap(a));
            }
            int a = random.nextInt(slow.n);
            for (int b = 0; b < slow.n; b++) {
                for (int what = 0; what < 3; what++) {
                    fine = fine && same("pair(" + a + ", " + b + ", " + what + ")", real.pair(a, b, what), slow.pair(a, b, what));
                }
            }
            return fine;
        }

        boolean call(int which) {
            if (which < 7) {
                return callThings(which);
            }
            if (which < 13) {
                return callParting(which);
            }
            if (which < 21) {
                return callBest(which);
            }
            if (which < 25) {
                return callTree(which);
            }
            return which < 37 ? callLast(which) : which == 37 ? callTree(21) && callTree(24) : placeOf(random.nextInt(slow.n));
        }

        boolean callThings(int which) {
            int a = things();
            int b = things();
            int v = random.nextInt(30) == 0 ? odd() : random.nextInt(30) == 0 ? 10000 + random.nextInt(2) : random.nextInt(range + 1);
            int kind = random.nextInt(20) == 0 ? odd() : random.nextInt(5);
            switch (which) {
                case 0:
                    if (slow.n > 2 && random.nextInt(5) > 0) {
                        return true;
                    }
                    int n = random.nextInt(10) == 0 ? random.nextInt(2) * 13 : 1 + random.nextInt(mostThings);
                    return same("things(" + n + ")", real.things(n), slow.things(n));
                case 1:
                    return same("way(" + a + ", " + b + ", " + v + ")", real.way(a, b, v), slow.way(a, b, v));
                case 2:
                    int m = random.nextInt(10) == 0 ? odd() : random.nextInt(10);
                    return same("sheet(" + kind + ", " + m + ")", real.sheet(kind, m), slow.sheet(kind, m));
                case 3:
                    int i = random.nextInt(20) == 0 ? odd() : random.nextInt(6);
                    long e = random.nextInt(10) == 0 ? random.nextLong() : random.nextInt(2 * range + 1) - range;
                    return same("entry(" + i + ", " + e + ")", real.entry(i, e), slow.entry(i, e));
                case 4:
                    return same("lay(" + a + ")", real.lay(a), slow.lay(a));
                case 5:
                    kind = kind == 4 ? 2 : kind;
                    return same("measure(" + kind + ")", real.measure(kind), slow.measure(kind));
                default:
                    int weight = random.nextInt(20) == 0 ? 1000 + random.nextInt(2) : random.nextInt(range + 1);
                    boolean like = random.nextInt(3) > 0;
                    return same("quarrel(" + a + ", " + b + ", " + weight + ", " + like + ")",
                            real.quarrel(a, b, weight, like), slow.quarrel(a, b, weight, like));
            }
        }

        boolean callParting(int which) {
            int a = things();
            int b = things();
            switch (which) {
                case 7:
                    int h = random.nextInt(20) == 0 ? odd() : random.nextInt(slow.heaps() + 2);
                    return same("put(" + a + ", " + h + ")", real.put(a, h), slow.put(a, h));
                case 8:
                    int w = below(6);
                    return same("count(" + w + ")", real.count(w), slow.count(w));
                case 9:
                    return same("heap(" + a + ")", real.heap(a), slow.heap(a));
                case 10:
                    int what = below(3);
                    return same("pair(" + a + ", " + b + ", " + what + ")", real.pair(a, b, what), slow.pair(a, b, what));
                case 11:
                    int goal = below(4);
                    return same("cost(" + goal + ")", real.cost(goal), slow.cost(goal));
                default:
                    int heap = below(slow.heaps());
                    return same("middle(" + heap + ")", real.middle(heap), slow.middle(heap));
            }
        }

        boolean callBest(int which) {
            int goal = below(4);
            int k = below(slow.n + 1);
            switch (which) {
                case 13:
                    return same("best(" + goal + ", " + k + ")", real.best(goal, k), slow.best(goal, k));
                case 14:
                    return same("line(" + goal + ", " + k + ")", real.line(goal, k), slow.line(goal, k));
                case 15:
                    return same("better(" + goal + ")", real.better(goal), slow.better(goal));
                case 16:
                    return same("two()", real.two(), slow.two());
                case 17:
                    return same("centres(" + k + ")", real.centres(k), slow.centres(k));
                case 18:
                    int seed = random.nextInt();
                    return same("third(" + seed + ")", real.third(seed), slow.third(seed));
                case 19:
                    // every order of seven is tried: now and then is enough
                    return slow.n == 7 && random.nextInt(8) > 0 || same("thirds()", real.thirds(), slow.thirds());
                default:
                    return same("rounds()", real.rounds(), slow.rounds());
            }
        }

        boolean callTree(int which) {
            int a = things();
            int b = things();
            switch (which) {
                case 21:
                    int kind = below(2);
                    return same("tree(" + kind + ")", real.tree(kind), slow.tree(kind));
                case 22:
                    int what = below(3);
                    int i = below(slow.n - 1);
                    return same("joined(" + i + ", " + what + ")", real.joined(i, what), slow.joined(i, what));
                case 23:
                    return same("height(" + a + ", " + b + ")", real.height(a, b), slow.height(a, b));
                default:
                    int h = random.nextInt(10) == 0 ? odd() : random.nextInt(2 * range + 2) - 1;
                    return same("cut(" + h + ")", real.cut(h), slow.cut(h));
            }
        }

        boolean callLast(int which) {
            int goal = below(4);
            int k = below(4);
            switch (which) {
                case 25:
                    int n = random.nextInt(10) == 0 ? odd() : random.nextInt(mostThings + 1);
                    int h = random.nextInt(10) == 0 ? odd() : random.nextInt(mostThings + 1);
                    return same("many(" + n + ", " + h + ")", real.many(n, h), slow.many(n, h));
                case 26:
                    return same("rank()", real.rank(), slow.rank());
                case 27:
                    long all = Slow.names(slow.n).length;
                    long rank = random.nextInt(10) == 0 ? random.nextLong() : random.nextInt(10) == 0 ? all : random.nextInt((int) all);
                    return same("of(" + rank + ")", real.of(rank), slow.of(rank));
                case 28:
                    return same("keep(" + k + ")", real.keep(k), slow.keep(k));
                case 29:
                    return same("differ(" + k + ")", real.differ(k), slow.differ(k));
                case 30:
                    return same("both(" + k + ")", real.both(k), slow.both(k));
                case 31:
                case 32:
                    int v = random.nextInt(25) == 0 ? odd() : random.nextInt(12);
                    return same("tell(" + v + ")", real.tell(v), slow.tell(v));
                case 33:
                    long cost = slow.costOfList(goal) + random.nextInt(2);
                    return same("check(" + goal + ", " + cost + ")", real.check(goal, cost), slow.check(goal, cost));
                case 34:
                    return fillList() && same("load()", real.load(), slow.load());
                default:
                    return same("undo()", real.undo(), slow.undo());
            }
        }

        /** Without this a list of the right length would be rare. */
        boolean fillList() {
            boolean fine = true;
            while (fine && slow.list.size() < slow.n && random.nextInt(20) > 0) {
                int v = random.nextInt(12);
                fine = same("tell(" + v + ")", real.tell(v), slow.tell(v));
            }
            if (fine && slow.list.size() > slow.n && random.nextInt(3) > 0) {
                fine = same("check(0, 0)", real.check(0, 0), slow.check(0, 0));
            }
            return fine;
        }
    }

    /**
     * Each call with each of its numbers at an edge and beside it, from a bare bench and from a full one.
     * What it leaves is compared too: behind each call that may change something and is not refused,
     * behind some forty others together.
     */
    private static final class Sweep {
        static final int[] SIZES = {1, 2, 3, 7, 8, 9, 10, 12};
        static final int MOST_IN_ONE = 40;
        static final List<String> ASKING = List.of("count", "heap", "pair", "cost", "middle", "thirds", "rounds",
                "joined", "height", "many", "rank", "differ");
        static final int[] FEW = {Integer.MIN_VALUE, -1, 0, 1, 2, 3, 4, 9, 11, 12, 13, 32, 999, 1000, 1001, 9999, 10000,
                10001, Integer.MAX_VALUE};
        static final long[] LONGS = {Long.MIN_VALUE, Long.MIN_VALUE + 1, -1L << 32, Integer.MIN_VALUE - 1L,
                Integer.MIN_VALUE, -32769, -32768, -1001, -1000, -129, -128, -2, -1, 0, 1, 2, 3, 127, 128, 255, 256, 1000,
                1001, 32767, 32768, 65535, 65536, Integer.MAX_VALUE, Integer.MAX_VALUE + 1L, 1L << 32, (1L << 32) + 1,
                Long.MAX_VALUE};
        int n;
        boolean full;
        HeapBench real;
        Slow slow;
        int sweptInOne;
        int used;
        String latest;
        long asked = 0;
        int wrong = 0;

        void go() {
            for (int size : SIZES) {
                n = size;
                full = false;
                sweepAll();
                full = true;
                sweepAll();
            }
        }

        void sweepAll() {
            for (Method method : HeapBench.class.getDeclaredMethods()) {
                boolean isCall = java.lang.reflect.Modifier.isPublic(method.getModifiers()) && !method.getName().equals("fault");
                if (isCall && wrong < 10) {
                    begin();
                    sweep(method, new ArrayList<>());
                    compareStates();
                }
            }
        }

        void begin() {
            real = new HeapBench();
            slow = new Slow();
            sweptInOne = 0;
            used = 0;
            latest = "the beginning";
            same("things", real.things(n), slow.things(n));
            if (full) {
                fill();
            }
        }

        void fill() {
            for (int a = 0; a < n; a++) {
                same("sheet", real.sheet(1, 4), slow.sheet(1, 4));
                for (int i = 0; i < 4; i++) {
                    int e = (a * 7 + i * 5) % 11 * 3 - 15;
                    same("entry", real.entry(i, e), slow.entry(i, e));
                }
                same("lay", real.lay(a), slow.lay(a));
                for (int b = 0; b < a; b++) {
                    int weight = (a * b + a) % 5;
                    boolean like = (a + b) % 3 > 0;
                    same("quarrel", real.quarrel(a, b, weight, like), slow.quarrel(a, b, weight, like));
                }
            }
            same("measure", real.measure(0), slow.measure(0));
            for (int k = 0; k < 4; k++) {
                same("of", real.of(k * (n - 1L)), slow.of(k * (n - 1L)));
                same("keep", real.keep(k), slow.keep(k));
            }
            same("tree", real.tree(1), slow.tree(1));
            for (int a = 0; a < n; a++) {
                same("tell", real.tell(11 - a / 2), slow.tell(11 - a / 2));
            }
            same("sheet", real.sheet(3, 8), slow.sheet(3, 8));
            same("entry", real.entry(n % 4, 1000L), slow.entry(n % 4, 1000L));
        }

        /** All ways to go on with the arguments so far, then the call itself. */
        void sweep(Method method, List<Object> sofar) {
            Class<?>[] kinds = method.getParameterTypes();
            if (sofar.size() == kinds.length) {
                ask(method, sofar.toArray());
                return;
            }
            for (Object value : valuesFor(kinds[sofar.size()], kinds.length)) {
                List<Object> longer = new ArrayList<>(sofar);
                longer.add(value);
                sweep(method, longer);
            }
        }

        List<Object> valuesFor(Class<?> kind, int of) {
            TreeSet<Long> values = new TreeSet<>();
            for (int v : FEW) {
                values.add((long) v);
            }
            for (int v = -2; v <= 2; v++) {
                values.add((long) n + v);
            }
            for (long v : of > 2 ? new long[0] : LONGS) {
                values.add(v);
            }
            for (int v = 0; v < 16 && of <= 2; v++) {
                values.add((long) v);
                values.add((long) Slow.names(n).length + v - 2);
            }
            List<Object> all = new ArrayList<>();
            for (long v : values) {
                if (kind == long.class) {
                    all.add(v);
                } else if (kind == int.class && v == (int) v) {
                    all.add((int) v);
                }
            }
            return kind == boolean.class ? List.of(false, true) : all;
        }

        void ask(Method method, Object[] given) {
            String name = method.getName();
            // the slow bench would take too long for it; it stands in boundaries.txt by hand
            boolean isDear = name.equals("best") && n == 9 && !full;
            if (isDear || wrong >= 10) {
                return;
            }
            latest = name + Arrays.toString(given) + (full ? " full" : " bare") + " with " + n + " things";
            same(latest, answer(method, real, given), answer(slowMethod(method), slow, given));
            // asked of these alone: of all of them it would be more than 512 calls
            same("fault()", real.fault(), slow.fault);
            boolean moved = slow.fault == 0 && !ASKING.contains(name);
            if (moved || ++sweptInOne >= MOST_IN_ONE) {
                compareStates();
                begin();
            }
        }

        Method slowMethod(Method method) {
            try {
                Method found = Slow.class.getDeclaredMethod(method.getName(), method.getParameterTypes());
                found.setAccessible(true);
                return found;
            } catch (ReflectiveOperationException e) {
                throw new IllegalStateException(e);
            }
        }

        long answer(Method method, Object bench, Object[] given) {
            try {
                Object got = method.invoke(bench, given);
                return got instanceof Boolean ? (boolean) got ? 1 : 0 : ((Number) got).longValue();
            } catch (ReflectiveOperationException e) {
                throw new IllegalStateException(latest, e);
            }
        }

        void same(String call, boolean got, boolean due) {
            same(call, got ? 1 : 0, due ? 1 : 0);
        }

        void same(String call, long got, long due) {
            asked++;
            used++;
            if (used > 512) {
                throw new IllegalStateException("what later calls answer is free");
            }
            if (got != due) {
                wrong++;
                System.out.println("  " + call + " answered " + got + ", due is " + due + "; behind " + latest);
            }
        }

        void compareStates() {
            for (int what = 0; what < 6; what++) {
                same("count " + what, real.count(what), slow.count(what));
            }
            for (int a = 0; a < slow.n; a++) {
                same("heap", real.heap(a), slow.heap(a));
                for (int b = 0; b < a; b++) {
                    for (int what = 0; what < 3; what++) {
                        same("pair " + what, real.pair(b, a, what), slow.pair(b, a, what));
                    }
                }
            }
            for (int i = 0; slow.joins != null && i < slow.joins.size(); i++) {
                same("joined", real.joined(i, 1), slow.joined(i, 1));
                same("joined", real.joined(i, 2), slow.joined(i, 2));
            }
            for (int k = 0; k < 4; k++) {
                same("differ", real.differ(k), slow.differ(k));
            }
        }
    }

    /** What can be undone. */
    private static final class State {
        int n = 1;
        int[][] places = new int[12][4];
        int[][] ways = new int[12][12];
        int[][] weights = new int[12][12];
        boolean[][] likes = new boolean[12][12];
        int[] name = new int[1];

        State copy() {
            State s = new State();
            s.n = n;
            for (int i = 0; i < 12; i++) {
                s.places[i] = places[i].clone();
                s.ways[i] = ways[i].clone();
                s.weights[i] = weights[i].clone();
                s.likes[i] = likes[i].clone();
            }
            s.name = name.clone();
            return s;
        }
    }

    private static final class Slow {
        State s = new State();
        int n = 1;
        int fault = 0;
        final ArrayDeque<State> past = new ArrayDeque<>();
        long[] sheet = null;
        int kind = -1;
        List<int[]> joins = null;
        List<TreeSet<Integer>> joinedSets = null;
        final int[][] keeps = new int[4][];
        final List<Integer> list = new ArrayList<>();

        private static final long[][] NAMES = new long[13][];
        private static final long[][] COUNTED = new long[13][];

        /** All names of n things, in order; a thing's heap in four bits. */
        static long[] names(int n) {
            if (NAMES[n] == null) {
                List<Long> all = new ArrayList<>();
                spell(n, 0, 0, 0, all);
                NAMES[n] = all.stream().mapToLong(Long::longValue).toArray();
                Arrays.sort(NAMES[n]);
            }
            return NAMES[n];
        }

        private static void spell(int n, int at, int heaps, long name, List<Long> all) {
            if (at == n) {
                all.add(name);
                return;
            }
            for (int h = heaps; h >= 0; h--) {
                spell(n, at + 1, Math.max(heaps, h + 1), name << 4 | h, all);
            }
        }

        static int[] unspell(long name, int n) {
            int[] heaps = new int[n];
            for (int i = n - 1; i >= 0; i--) {
                heaps[i] = (int) (name & 15);
                name >>= 4;
            }
            return heaps;
        }

        static int[] byLeast(int[] labels) {
            List<Integer> seen = new ArrayList<>();
            int[] name = new int[labels.length];
            for (int i = 0; i < labels.length; i++) {
                if (!seen.contains(labels[i])) {
                    seen.add(labels[i]);
                }
                name[i] = seen.indexOf(labels[i]);
            }
            return name;
        }

        static int heapsOf(int[] name) {
            return Arrays.stream(name).max().getAsInt() + 1;
        }

        int heaps() {
            return heapsOf(s.name);
        }

        int no(int why) {
            fault = why;
            return -1;
        }

        void change() {
            fault = 0;
            past.addLast(s.copy());
            if (past.size() > 20) {
                past.removeFirst();
            }
        }

        boolean thing(int a) {
            return 0 <= a && a <= n - 1;
        }

        boolean things(int m) {
            if (m < 1 || m > 12) {
                return no(1) >= 0;
            }
            change();
            s = new State();
            s.n = m;
            s.name = new int[m];
            n = m;
            joins = null;
            return true;
        }

        int way(int a, int b, int v) {
            if (!thing(a) || !thing(b) || a == b || v < 0 || v > 10000) {
                return no(1);
            }
            change();
            int was = s.ways[a][b];
            s.ways[a][b] = v;
            s.ways[b][a] = v;
            return was;
        }

        int sheet(int k, int m) {
            if (k == 4) {
                fault = 0;
                kind = 4;
                sheet = new long[0];
                return 0;
            }
            if (k < 0 || k > 4 || m > 8) {
                return no(1);
            }
            if (m < 0) {
                return no(4);
            }
            fault = 0;
            kind = k;
            sheet = new long[m];
            return m;
        }

        boolean entry(int i, long v) {
            if (sheet == null || kind == 4) {
                return no(2) >= 0;
            }
            if (i < 0 || i >= sheet.length) {
                return no(1) >= 0;
            }
            fault = 0;
            int away = 64 - (8 << kind);
            sheet[i] = v << away >> away;
            return true;
        }

        boolean lay(int a) {
            int[] place = new int[4];
            boolean wrong = !thing(a);
            for (int i = 0; sheet != null && i < 4 && i < sheet.length; i++) {
                wrong |= sheet[i] > 1000 || sheet[i] < -1000;
                place[i] = (int) sheet[i];
            }
            if (wrong || sheet == null) {
                return no(wrong ? 1 : 2) >= 0;
            }
            change();
            s.places[a] = place;
            sheet = null;
            return true;
        }

        int measure(int k) {
            if (k != 0 && k != 1 && k != 2) {
                return no(1);
            }
            change();
            int more = 0;
            for (int a = 0; a < n; a++) {
                for (int b = 0; b < n; b++) {
                    int[] sides = new int[4];
                    for (int i = 0; i < 4; i++) {
                        sides[i] = Math.abs(s.places[a][i] - s.places[b][i]);
                    }
                    int way = k == 0 ? Arrays.stream(sides).sum()
                            : k == 1 ? Arrays.stream(sides).max().getAsInt()
                            : Arrays.stream(sides).map(x -> x * x).sum();
                    more += way > 10000 ? 1 : 0;
                    s.ways[a][b] = way > 10000 ? 10000 : way;
                }
            }
            return more / 2;
        }

        boolean quarrel(int a, int b, int weight, boolean like) {
            if (!thing(a) || !thing(b) || a == b || weight < 0 || weight > 1000) {
                return no(1) >= 0;
            }
            change();
            s.weights[a][b] = weight;
            s.weights[b][a] = weight;
            s.likes[a][b] = like;
            s.likes[b][a] = like;
            return true;
        }

        int put(int a, int h) {
            if (!thing(a) || h < 0 || h > heaps()) {
                return no(1);
            }
            change();
            s.name[a] = h;
            s.name = byLeast(s.name);
            return heaps();
        }

        int count(int what) {
            if (what < 0 || what > 5) {
                return no(1);
            }
            fault = 0;
            int[] all = {n, heaps(), past.size(), joins == null ? -1 : joins.size(), list.size(), sheet == null ? -1 : sheet.length};
            return all[what];
        }

        int heap(int a) {
            if (!thing(a)) {
                return no(1);
            }
            fault = 0;
            return s.name[a];
        }

        int pair(int a, int b, int what) {
            if (!thing(a) || !thing(b) || what < 0 || what > 2) {
                return no(1);
            }
            fault = 0;
            if (a == b) {
                return 0;
            }
            return what == 0 ? s.ways[a][b] : what == 1 ? s.weights[a][b] : s.likes[a][b] ? 1 : 0;
        }

        List<List<Integer>> heapsIn(int[] name) {
            List<List<Integer>> heaps = new ArrayList<>();
            for (int h = 0; h < heapsOf(name); h++) {
                List<Integer> heap = new ArrayList<>();
                for (int i = 0; i < name.length; i++) {
                    if (name[i] == h) {
                        heap.add(i);
                    }
                }
                heaps.add(heap);
            }
            return heaps;
        }

        long costOf(int goal, int[] name, int[][] ways) {
            long sum = 0;
            for (int a = 0; a < n && goal >= 2; a++) {
                for (int b = 0; b < a; b++) {
                    boolean one = name[a] == name[b];
                    if (goal == 3) {
                        sum += one == s.likes[a][b] ? 0 : s.weights[a][b];
                    } else if (one) {
                        sum = Math.max(sum, ways[a][b]);
                    }
                }
            }
            for (List<Integer> heap : goal < 2 ? heapsIn(name) : new ArrayList<List<Integer>>()) {
                sum += goal == 0 ? spread(heap, ways) : sumFrom(middleIn(heap, ways), heap, ways);
            }
            return sum;
        }

        long spread(List<Integer> heap, int[][] ways) {
            BigInteger squares = BigInteger.ZERO;
            for (int a : heap) {
                for (int b : heap) {
                    if (a < b) {
                        squares = squares.add(BigInteger.valueOf(ways[a][b]).pow(2));
                    }
                }
            }
            BigInteger[] parts = squares.multiply(BigInteger.valueOf(27720)).divideAndRemainder(BigInteger.valueOf(heap.size()));
            if (parts[1].signum() != 0) {
                throw new IllegalStateException("27720 is divided by each number of things");
            }
            return parts[0].longValueExact();
        }

        long sumFrom(int a, List<Integer> heap, int[][] ways) {
            return heap.stream().mapToLong(b -> ways[a][b]).sum();
        }

        int middleIn(List<Integer> heap, int[][] ways) {
            int middle = heap.get(0);
            for (int a : heap) {
                middle = sumFrom(a, heap, ways) < sumFrom(middle, heap, ways) ? a : middle;
            }
            return middle;
        }

        boolean goal(int goal) {
            return 0 <= goal && goal <= 3;
        }

        long cost(int goal) {
            if (!goal(goal)) {
                return no(1);
            }
            fault = 0;
            return costOf(goal, s.name, s.ways);
        }

        int middle(int h) {
            if (h < 0 || h >= heaps()) {
                return no(1);
            }
            fault = 0;
            return middleIn(heapsIn(s.name).get(h), s.ways);
        }

        long best(int goal, int k) {
            if (!goal(goal) || k < 0 || k > n) {
                return no(1);
            }
            if (n > 9) {
                return no(3);
            }
            change();
            long least = -1;
            for (long spelled : names(n)) {
                int[] name = unspell(spelled, n);
                if (k != 0 && heapsOf(name) != k) {
                    continue;
                }
                long cost = costOf(goal, name, s.ways);
                if (least < 0 || cost < least) {
                    least = cost;
                    s.name = name;
                }
            }
            return least;
        }

        long line(int goal, int k) {
            if (goal < 0 || goal > 2 || k < 1 || k > n) {
                return no(1);
            }
            change();
            List<Integer> order = new ArrayList<>();
            for (int i = 0; i < n; i++) {
                order.add(i);
            }
            order.sort((a, b) -> s.places[a][0] != s.places[b][0] ? s.places[a][0] - s.places[b][0] : a - b);
            int[][] ways = new int[n][n];
            for (int a = 0; a < n; a++) {
                for (int b = 0; b < n; b++) {
                    ways[a][b] = Math.abs(s.places[a][0] - s.places[b][0]);
                }
            }
            List<int[]> all = new ArrayList<>();
            addSpans(order, new int[n], 1, k, all);
            return takeFirstBest(goal, all, ways);
        }

        /** All partings in spans of an order: each thing is with the one ahead of it, or begins a span. */
        static void addSpans(List<Integer> order, int[] labels, int at, int k, List<int[]> all) {
            if (at == order.size()) {
                int[] name = byLeast(labels);
                if (heapsOf(name) == k) {
                    all.add(name);
                }
                return;
            }
            int ahead = labels[order.get(at - 1)];
            for (int begins = 0; begins < 2; begins++) {
                labels[order.get(at)] = ahead + begins;
                addSpans(order, labels, at + 1, k, all);
            }
        }

        long takeFirstBest(int goal, List<int[]> all, int[][] ways) {
            all.sort(Arrays::compare);
            long least = -1;
            for (int[] name : all) {
                long cost = costOf(goal, name, ways);
                if (least < 0 || cost < least) {
                    least = cost;
                    s.name = name;
                }
            }
            return least;
        }

        int better(int goal) {
            if (!goal(goal)) {
                return no(1);
            }
            change();
            int moves = 0;
            while (true) {
                long now = costOf(goal, s.name, s.ways);
                long greatestFall = 0;
                int[] behind = null;
                for (int a = 0; a < n; a++) {
                    int own = s.name[a];
                    boolean alone = Arrays.stream(s.name).filter(h -> h == own).count() == 1;
                    for (int h = 0; h <= heaps(); h++) {
                        if (h == own || h == heaps() && alone) {
                            continue;
                        }
                        int[] moved = s.name.clone();
                        moved[a] = h;
                        moved = byLeast(moved);
                        long fall = now - costOf(goal, moved, s.ways);
                        if (fall > greatestFall) {
                            greatestFall = fall;
                            behind = moved;
                        }
                    }
                }
                if (behind == null) {
                    return moves;
                }
                s.name = behind;
                moves++;
            }
        }

        int two() {
            change();
            List<int[]> all = new ArrayList<>();
            for (int others = 0; others < 1 << n; others++) {
                int[] labels = new int[n];
                for (int a = 0; a < n; a++) {
                    labels[a] = others >> a & 1;
                }
                all.add(byLeast(labels));
            }
            return (int) takeFirstBest(2, all, s.ways);
        }

        int nearest(int a, List<Integer> centres) {
            int nearest = 0;
            for (int i = 0; i < centres.size(); i++) {
                nearest = s.ways[a][centres.get(i)] < s.ways[a][centres.get(nearest)] ? i : nearest;
            }
            return nearest;
        }

        int centres(int k) {
            if (k < 1 || k > n) {
                return no(1);
            }
            change();
            List<Integer> centres = new ArrayList<>(List.of(0));
            while (centres.size() < k) {
                int farthest = -1;
                int most = -1;
                for (int a = 0; a < n; a++) {
                    int way = s.ways[a][centres.get(nearest(a, centres))];
                    if (way > most) {
                        most = way;
                        farthest = a;
                    }
                }
                centres.add(farthest);
            }
            int[] labels = new int[n];
            int greatest = 0;
            for (int a = 0; a < n; a++) {
                labels[a] = nearest(a, centres);
                greatest = Math.max(greatest, s.ways[a][centres.get(labels[a])]);
            }
            s.name = byLeast(labels);
            return greatest;
        }

        int[] gathered(List<Integer> order) {
            int[] labels = new int[n];
            Arrays.fill(labels, -1);
            for (int a : order) {
                if (labels[a] != -1) {
                    continue;
                }
                labels[a] = a;
                for (int b = 0; b < n; b++) {
                    if (labels[b] == -1 && s.likes[a][b] && s.weights[a][b] > 0) {
                        labels[b] = a;
                    }
                }
            }
            return byLeast(labels);
        }

        long third(int seed) {
            change();
            List<Integer> order = new ArrayList<>();
            for (int i = 0; i < n; i++) {
                order.add(i);
            }
            int r = seed;
            for (int i = n - 1; i >= 1; i--) {
                r = r * 1103515245 + 12345;
                Collections.swap(order, i, (r >>> 16) % (i + 1));
            }
            s.name = gathered(order);
            return costOf(3, s.name, s.ways);
        }

        long thirds() {
            if (n > 7) {
                return no(3);
            }
            fault = 0;
            return overOrders(new ArrayList<>());
        }

        long overOrders(List<Integer> order) {
            if (order.size() == n) {
                return costOf(3, gathered(order), s.ways);
            }
            long sum = 0;
            for (int a = 0; a < n; a++) {
                if (!order.contains(a)) {
                    List<Integer> longer = new ArrayList<>(order);
                    longer.add(a);
                    sum += overOrders(longer);
                }
            }
            return sum;
        }

        int rounds() {
            fault = 0;
            int rounds = 0;
            for (int a = 0; a < n; a++) {
                for (int b = 0; b < n; b++) {
                    for (int c = b + 1; c < n; c++) {
                        boolean three = a != b && a != c;
                        boolean heavy = s.weights[a][b] > 0 && s.weights[a][c] > 0 && s.weights[b][c] > 0;
                        rounds += three && heavy && s.likes[a][b] && s.likes[a][c] && !s.likes[b][c] ? 1 : 0;
                    }
                }
            }
            return rounds;
        }

        int tree(int k) {
            if (k != 0 && k != 1) {
                return no(1);
            }
            fault = 0;
            joins = new ArrayList<>();
            joinedSets = new ArrayList<>();
            List<TreeSet<Integer>> heaps = new ArrayList<>();
            for (int i = 0; i < n; i++) {
                heaps.add(new TreeSet<>(List.of(i)));
            }
            while (heaps.size() > 1) {
                int[] least = null;
                for (TreeSet<Integer> x : heaps) {
                    for (TreeSet<Integer> y : heaps) {
                        int[] join = {x.first(), y.first(), between(x, y, k)};
                        if (join[0] < join[1] && (least == null || join[2] < least[2]
                                || join[2] == least[2] && (join[0] < least[0] || join[0] == least[0] && join[1] < least[1]))) {
                            least = join;
                        }
                    }
                }
                int one = least[0];
                int other = least[1];
                TreeSet<Integer> x = heaps.stream().filter(h -> h.first() == one).findFirst().get();
                TreeSet<Integer> y = heaps.stream().filter(h -> h.first() == other).findFirst().get();
                heaps.remove(y);
                x.addAll(y);
                joins.add(least);
                joinedSets.add(new TreeSet<>(x));
            }
            return joins.size();
        }

        int between(TreeSet<Integer> x, TreeSet<Integer> y, int k) {
            int height = -1;
            for (int a : x) {
                for (int b : y) {
                    int way = s.ways[a][b];
                    height = height < 0 ? way : k == 0 ? Math.min(height, way) : Math.max(height, way);
                }
            }
            return height;
        }

        int joined(int i, int what) {
            if (joins == null) {
                return no(2);
            }
            if (i < 0 || i >= joins.size() || what < 0 || what > 2) {
                return no(1);
            }
            fault = 0;
            return joins.get(i)[what];
        }

        int height(int a, int b) {
            if (!thing(a) || !thing(b)) {
                return no(1);
            }
            if (joins == null) {
                return no(2);
            }
            fault = 0;
            for (int i = 0; a != b && i < joins.size(); i++) {
                if (joinedSets.get(i).contains(a) && joinedSets.get(i).contains(b)) {
                    return joins.get(i)[2];
                }
            }
            return 0;
        }

        int cut(int h) {
            if (joins == null) {
                return no(2);
            }
            change();
            int[] labels = new int[n];
            for (int i = 0; i < n; i++) {
                labels[i] = i;
            }
            for (int i = 0; i < joins.size(); i++) {
                if (joins.get(i)[2] <= h) {
                    for (int a : joinedSets.get(i)) {
                        labels[a] = joinedSets.get(i).first();
                    }
                }
            }
            s.name = byLeast(labels);
            return heaps();
        }

        long many(int m, int k) {
            if (m < 0 || m > 12 || k < 0 || k > 12) {
                return no(1);
            }
            fault = 0;
            return k == 0 ? names(m).length : counted(m)[k];
        }

        /** How many names of so many things have 0, 1, .. heaps; each counted once for all runs. */
        static long[] counted(int m) {
            if (COUNTED[m] == null) {
                COUNTED[m] = new long[13];
                for (long spelled : names(m)) {
                    COUNTED[m][m == 0 ? 0 : heapsOf(unspell(spelled, m))]++;
                }
            }
            return COUNTED[m];
        }

        long rank() {
            fault = 0;
            long name = 0;
            for (int h : s.name) {
                name = name << 4 | h;
            }
            return Arrays.binarySearch(names(n), name);
        }

        boolean of(long rank) {
            if (rank < 0 || rank >= names(n).length) {
                return no(1) >= 0;
            }
            change();
            s.name = unspell(names(n)[(int) rank], n);
            return true;
        }

        boolean keep(int k) {
            if (k < 0 || k > 3) {
                return no(1) >= 0;
            }
            fault = 0;
            keeps[k] = s.name.clone();
            return true;
        }

        int differ(int k) {
            if (k < 0 || k > 3) {
                return no(1);
            }
            if (keeps[k] == null || keeps[k].length != n) {
                return no(2);
            }
            fault = 0;
            int pairs = 0;
            for (int a = 0; a < n; a++) {
                for (int b = 0; b < a; b++) {
                    pairs += (s.name[a] == s.name[b]) == (keeps[k][a] == keeps[k][b]) ? 0 : 1;
                }
            }
            return pairs;
        }

        int both(int k) {
            if (differ(k) < 0) {
                return -1;
            }
            change();
            int[] labels = new int[n];
            for (int a = 0; a < n; a++) {
                labels[a] = s.name[a] * 100 + keeps[k][a];
            }
            s.name = byLeast(labels);
            return heaps();
        }

        int tell(int v) {
            if (v < 0 || v > 11 || list.size() == 12) {
                return no(1);
            }
            fault = 0;
            list.add(v);
            return list.size();
        }

        long costOfList(int goal) {
            return goal(goal) && list.size() == n ? costOf(goal, byLeast(list.stream().mapToInt(v -> v).toArray()), s.ways) : 0;
        }

        int check(int goal, long cost) {
            if (!goal(goal)) {
                return no(1);
            }
            fault = 0;
            int answer = list.size() != n ? 0 : costOfList(goal) == cost ? 2 : 1;
            list.clear();
            return answer;
        }

        int load() {
            if (list.size() != n) {
                return no(1);
            }
            change();
            s.name = byLeast(list.stream().mapToInt(v -> v).toArray());
            list.clear();
            return heaps();
        }

        int undo() {
            if (past.isEmpty()) {
                return no(2);
            }
            fault = 0;
            s = past.removeLast();
            n = s.n;
            joins = null;
            return past.size();
        }
    }
}
