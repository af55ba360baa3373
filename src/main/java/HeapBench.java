import java.util.Arrays;

/**
 * A bench that puts things in heaps and shows that no better heaps there are.
 * What each call promises is told by the document, promise by promise.
 */
public final class HeapBench {
    public static final int NONE = -1;

    private static final int MOST_THINGS = 12;
    private static final int PLACE_NUMBERS = 4;
    private static final int FARTHEST_PLACE = 1000;
    private static final int LONGEST_WAY = 10000;
    private static final int HEAVIEST = 1000;
    private static final int MOST_ENTRIES = 8;
    private static final int MOST_UNDONE = 20;
    private static final int KEEPS = 4;
    private static final int MOST_FOR_BEST = 9;
    private static final int MOST_FOR_THIRDS = 7;

    private static final int SPREAD = 0;
    private static final int MIDDLE = 1;
    private static final int WIDE = 2;
    private static final int QUARRELS = 3;
    private static final int SPREAD_UNIT = 27720;

    private static final int WRONG_NUMBER = 1;
    private static final int NOTHING_THERE = 2;
    private static final int TOO_MANY = 3;
    private static final int BELOW_ZERO = 4;

    private final Scene now = new Scene();
    private final History past = new History();
    private final Sheet page = new Sheet();
    private final Tree joins = new Tree();
    private final Parting[] kept = new Parting[KEEPS];
    private final Parting told = new Parting();
    private final Search search = new Search();
    private final Line spans = new Line();
    private final Moves moves = new Moves();
    private final Likes likings = new Likes();
    private final Names names = new Names();
    private int latestFault = 0;

    public HeapBench() {
        now.restart(1);
        for (int k = 0; k < KEEPS; k++) {
            kept[k] = new Parting();
        }
    }

    // ---- things

    public boolean things(int n) {
        if (n < 1 || n > MOST_THINGS) {
            return deny(WRONG_NUMBER);
        }
        change();
        now.restart(n);
        joins.drop();
        return true;
    }

    public int way(int a, int b, int v) {
        if (!isCouple(a, b) || v < 0 || v > LONGEST_WAY) {
            return refuse(WRONG_NUMBER);
        }
        change();
        int before = now.wayOf(a, b);
        now.setWay(a, b, v);
        return before;
    }

    public int sheet(int kind, int m) {
        if (kind < Sheet.BYTES || kind > Sheet.MISSING) {
            return refuse(WRONG_NUMBER);
        }
        if (kind != Sheet.MISSING && m > MOST_ENTRIES) {
            return refuse(WRONG_NUMBER);
        }
        if (kind != Sheet.MISSING && m < 0) {
            return refuse(BELOW_ZERO);
        }
        latestFault = 0;
        page.renew(kind, kind == Sheet.MISSING ? 0 : m);
        return page.length;
    }

    public boolean entry(int i, long v) {
        if (page.kind == NONE || page.kind == Sheet.MISSING) {
            return deny(NOTHING_THERE);
        }
        if (i < 0 || i >= page.length) {
            return deny(WRONG_NUMBER);
        }
        latestFault = 0;
        page.write(i, v);
        return true;
    }

    public boolean lay(int thing) {
        if (!isThing(thing) || !page.isPlace()) {
            return deny(WRONG_NUMBER);
        }
        if (page.kind == NONE) {
            return deny(NOTHING_THERE);
        }
        change();
        for (int i = 0; i < PLACE_NUMBERS; i++) {
            now.places[thing * PLACE_NUMBERS + i] = (int) page.entries[i];
        }
        page.drop();
        return true;
    }

    public int measure(int kind) {
        if (kind < 0 || kind > 2) {
            return refuse(WRONG_NUMBER);
        }
        change();
        int above = 0;
        for (int a = 1; a < now.size; a++) {
            for (int b = 0; b < a; b++) {
                int gap = now.gapOf(a, b, kind);
                above += gap > LONGEST_WAY ? 1 : 0;
                now.setWay(a, b, Math.min(gap, LONGEST_WAY));
            }
        }
        return above;
    }

    public boolean quarrel(int a, int b, int weight, boolean like) {
        if (!isCouple(a, b) || weight < 0 || weight > HEAVIEST) {
            return deny(WRONG_NUMBER);
        }
        change();
        now.setQuarrel(a, b, weight, like ? 1 : 0);
        return true;
    }

    // ---- the parting

    public int put(int thing, int heap) {
        // a heap's number just behind the last one asks for a new heap
        if (!isThing(thing) || heap < 0 || heap > now.parting.heaps) {
            return refuse(WRONG_NUMBER);
        }
        change();
        now.parting.heapOf[thing] = heap;
        now.parting.renumber();
        return now.parting.heaps;
    }

    public int count(int what) {
        latestFault = 0;
        switch (what) {
            case 0:
                return now.size;
            case 1:
                return now.parting.heaps;
            case 2:
                return past.length;
            case 3:
                return joins.length;
            case 4:
                return told.size;
            case 5:
                return page.length;
            default:
                return refuse(WRONG_NUMBER);
        }
    }

    public int heap(int thing) {
        if (!isThing(thing)) {
            return refuse(WRONG_NUMBER);
        }
        latestFault = 0;
        return now.parting.heapOf[thing];
    }

    public int pair(int a, int b, int what) {
        if (!isThing(a) || !isThing(b)) {
            return refuse(WRONG_NUMBER);
        }
        latestFault = 0;
        switch (what) {
            case 0:
                return now.wayOf(a, b);
            case 1:
                return now.weightOf(a, b);
            case 2:
                return now.likeOf(a, b);
            default:
                return refuse(WRONG_NUMBER);
        }
    }

    public long cost(int goal) {
        if (!isGoal(goal)) {
            return refuse(WRONG_NUMBER);
        }
        latestFault = 0;
        return Costs.ofParting(now, goal, now.parting);
    }

    public int middle(int heap) {
        if (heap < 0 || heap >= now.parting.heaps) {
            return refuse(WRONG_NUMBER);
        }
        latestFault = 0;
        return Costs.middleOf(now, now.parting.membersOf(heap));
    }

    // ---- best ones

    public long best(int goal, int k) {
        if (!isGoal(goal) || k < 0 || k > now.size) {
            return refuse(WRONG_NUMBER);
        }
        if (now.size > MOST_FOR_BEST) {
            return refuse(TOO_MANY);
        }
        change();
        int fewest = k == 0 ? 1 : k;
        int most = k == 0 ? now.size : k;
        return search.run(now, goal, fewest, most);
    }

    public long line(int goal, int k) {
        if (goal < SPREAD || goal > WIDE || k < 1 || k > now.size) {
            return refuse(WRONG_NUMBER);
        }
        change();
        return spans.run(now, goal, k);
    }

    public int better(int goal) {
        if (!isGoal(goal)) {
            return refuse(WRONG_NUMBER);
        }
        change();
        return moves.run(now, goal);
    }

    public int two() {
        change();
        return (int) search.run(now, WIDE, 1, 2);
    }

    public int centres(int k) {
        if (k < 1 || k > now.size) {
            return refuse(WRONG_NUMBER);
        }
        change();
        return now.partByCentres(k);
    }

    public long third(int seed) {
        change();
        likings.shuffle(seed, now.size);
        likings.gather(now);
        return Costs.ofParting(now, QUARRELS, now.parting);
    }

    public long thirds() {
        if (now.size > MOST_FOR_THIRDS) {
            return refuse(TOO_MANY);
        }
        latestFault = 0;
        return likings.sumOverOrders(now);
    }

    public int rounds() {
        latestFault = 0;
        return Likes.brokenRounds(now);
    }

    // ---- trees

    public int tree(int kind) {
        if (kind < 0 || kind > 1) {
            return refuse(WRONG_NUMBER);
        }
        latestFault = 0;
        joins.grow(now, kind);
        return joins.length;
    }

    public int joined(int i, int what) {
        if (joins.length == NONE) {
            return refuse(NOTHING_THERE);
        }
        if (i < 0 || i >= joins.length) {
            return refuse(WRONG_NUMBER);
        }
        latestFault = 0;
        switch (what) {
            case 0:
                return joins.one[i];
            case 1:
                return joins.other[i];
            case 2:
                return joins.heights[i];
            default:
                return refuse(WRONG_NUMBER);
        }
    }

    public int height(int a, int b) {
        if (!isThing(a) || !isThing(b)) {
            return refuse(WRONG_NUMBER);
        }
        if (joins.length == NONE) {
            return refuse(NOTHING_THERE);
        }
        latestFault = 0;
        return joins.heightOf(a, b);
    }

    public int cut(int h) {
        if (joins.length == NONE) {
            return refuse(NOTHING_THERE);
        }
        change();
        joins.partBelow(h, now.parting);
        return now.parting.heaps;
    }

    // ---- partings counted, numbered, compared

    public long many(int n, int k) {
        if (n < 0 || n > MOST_THINGS || k < 0 || k > MOST_THINGS) {
            return refuse(WRONG_NUMBER);
        }
        latestFault = 0;
        return k == 0 ? names.allOf(n) : names.withHeaps(n, k);
    }

    public long rank() {
        latestFault = 0;
        return names.rankOf(now.parting);
    }

    public boolean of(long rank) {
        if (rank < 0 || rank >= names.allOf(now.size)) {
            return deny(WRONG_NUMBER);
        }
        change();
        names.unrank(rank, now.parting);
        return true;
    }

    public boolean keep(int k) {
        if (k < 0 || k >= KEEPS) {
            return deny(WRONG_NUMBER);
        }
        latestFault = 0;
        kept[k].copyFrom(now.parting);
        return true;
    }

    public int differ(int k) {
        int why = keepFault(k);
        if (why != 0) {
            return refuse(why);
        }
        latestFault = 0;
        return now.parting.pairsApart(kept[k]);
    }

    public int both(int k) {
        int why = keepFault(k);
        if (why != 0) {
            return refuse(why);
        }
        change();
        now.parting.meet(kept[k]);
        return now.parting.heaps;
    }

    // ---- lists

    public int tell(int v) {
        if (v < 0 || v >= MOST_THINGS || told.size >= MOST_THINGS) {
            return refuse(WRONG_NUMBER);
        }
        latestFault = 0;
        told.heapOf[told.size] = v;
        told.size++;
        return told.size;
    }

    public int check(int goal, long cost) {
        if (!isGoal(goal)) {
            return refuse(WRONG_NUMBER);
        }
        latestFault = 0;
        int length = told.size;
        told.renumber();
        long real = length == now.size ? Costs.ofParting(now, goal, told) : 0;
        told.size = 0;
        if (length != now.size) {
            return 0;
        }
        return real == cost ? 2 : 1;
    }

    public int load() {
        if (told.size != now.size) {
            return refuse(WRONG_NUMBER);
        }
        change();
        now.parting.copyFrom(told);
        now.parting.renumber();
        told.size = 0;
        return now.parting.heaps;
    }

    public int undo() {
        if (past.length == 0) {
            return refuse(NOTHING_THERE);
        }
        latestFault = 0;
        past.bringBack(now);
        joins.drop();
        return past.length;
    }

    public int fault() {
        return latestFault;
    }

    // ---- what the calls share

    private int refuse(int why) {
        latestFault = why;
        return NONE;
    }

    private boolean deny(int why) {
        latestFault = why;
        return false;
    }

    /** Every change goes through here once it can't be refused any more, so that undo() finds it. */
    private void change() {
        latestFault = 0;
        past.remember(now);
    }

    private boolean isThing(int thing) {
        return thing >= 0 && thing < now.size;
    }

    private boolean isCouple(int a, int b) {
        return isThing(a) && isThing(b) && a != b;
    }

    private static boolean isGoal(int goal) {
        return goal >= SPREAD && goal <= QUARRELS;
    }

    private int keepFault(int k) {
        if (k < 0 || k >= KEEPS) {
            return WRONG_NUMBER;
        }
        // an empty KEEP has 0 things, which THE PARTING never has
        return kept[k].size == now.size ? 0 : NOTHING_THERE;
    }

    /** A parting: the heap of each thing; by least things once it has been renumbered. */
    private static final class Parting {
        int size = 0;
        int heaps = 0;
        final int[] heapOf = new int[MOST_THINGS];
        // one more than there are things, for a new heap that put() asks for beside twelve
        final int[] fresh = new int[MOST_THINGS + 1];

        void copyFrom(Parting from) {
            size = from.size;
            heaps = from.heaps;
            System.arraycopy(from.heapOf, 0, heapOf, 0, MOST_THINGS);
        }

        void allInOne(int n) {
            size = n;
            heaps = 1;
            Arrays.fill(heapOf, 0);
        }

        void renumber() {
            Arrays.fill(fresh, NONE);
            heaps = 0;
            for (int thing = 0; thing < size; thing++) {
                int old = heapOf[thing];
                if (old < 0 || old >= fresh.length) {
                    continue;
                }
                if (fresh[old] == NONE) {
                    fresh[old] = heaps;
                    heaps++;
                }
                heapOf[thing] = fresh[old];
            }
        }

        /** The things of a heap, as bits. */
        int membersOf(int heap) {
            int members = 0;
            for (int thing = 0; thing < size; thing++) {
                if (heapOf[thing] == heap) {
                    members |= 1 << thing;
                }
            }
            return members;
        }

        int pairsApart(Parting with) {
            int apart = 0;
            for (int a = 1; a < size; a++) {
                for (int b = 0; b < a; b++) {
                    boolean here = heapOf[a] == heapOf[b];
                    boolean there = with.heapOf[a] == with.heapOf[b];
                    apart += here != there ? 1 : 0;
                }
            }
            return apart;
        }

        /** Things stay together only where they are together in both. */
        void meet(Parting with) {
            heaps = 0;
            for (int thing = 0; thing < size; thing++) {
                fresh[thing] = NONE;
                for (int ahead = 0; ahead < thing && fresh[thing] == NONE; ahead++) {
                    if (heapOf[ahead] == heapOf[thing] && with.heapOf[ahead] == with.heapOf[thing]) {
                        fresh[thing] = fresh[ahead];
                    }
                }
                if (fresh[thing] == NONE) {
                    fresh[thing] = heaps;
                    heaps++;
                }
            }
            System.arraycopy(fresh, 0, heapOf, 0, size);
        }

        boolean standsAhead(Parting with) {
            for (int thing = 0; thing < size; thing++) {
                if (heapOf[thing] != with.heapOf[thing]) {
                    return heapOf[thing] < with.heapOf[thing];
                }
            }
            return false;
        }
    }

    /** All that a change can change: things, places, ways, quarrels and the parting. */
    private static final class Scene {
        int size = 1;
        final int[] places = new int[MOST_THINGS * PLACE_NUMBERS];
        final int[] ways = new int[MOST_THINGS * MOST_THINGS];
        final int[] weights = new int[MOST_THINGS * MOST_THINGS];
        final int[] likes = new int[MOST_THINGS * MOST_THINGS];
        final Parting parting = new Parting();

        void restart(int n) {
            size = n;
            Arrays.fill(places, 0);
            Arrays.fill(ways, 0);
            Arrays.fill(weights, 0);
            Arrays.fill(likes, 0);
            parting.allInOne(n);
        }

        void copyFrom(Scene from) {
            size = from.size;
            System.arraycopy(from.places, 0, places, 0, places.length);
            System.arraycopy(from.ways, 0, ways, 0, ways.length);
            System.arraycopy(from.weights, 0, weights, 0, weights.length);
            System.arraycopy(from.likes, 0, likes, 0, likes.length);
            parting.copyFrom(from.parting);
        }

        int wayOf(int a, int b) {
            return ways[a * MOST_THINGS + b];
        }

        int weightOf(int a, int b) {
            return weights[a * MOST_THINGS + b];
        }

        int likeOf(int a, int b) {
            return likes[a * MOST_THINGS + b];
        }

        void setWay(int a, int b, int v) {
            ways[a * MOST_THINGS + b] = v;
            ways[b * MOST_THINGS + a] = v;
        }

        void setQuarrel(int a, int b, int weight, int like) {
            weights[a * MOST_THINGS + b] = weight;
            weights[b * MOST_THINGS + a] = weight;
            likes[a * MOST_THINGS + b] = like;
            likes[b * MOST_THINGS + a] = like;
        }

        /** A pair of weight 0 has been told as LIKE or UNLIKE too, but pulls nothing together. */
        boolean pulls(int a, int b) {
            return weightOf(a, b) > 0 && likeOf(a, b) == 1;
        }

        int firstNumber(int thing) {
            return places[thing * PLACE_NUMBERS];
        }

        int gapOf(int a, int b, int kind) {
            int gap = 0;
            for (int i = 0; i < PLACE_NUMBERS; i++) {
                int side = Math.abs(places[a * PLACE_NUMBERS + i] - places[b * PLACE_NUMBERS + i]);
                if (kind == 0) {
                    gap += side;
                } else if (kind == 1) {
                    gap = Math.max(gap, side);
                } else {
                    gap += side * side;
                }
            }
            return gap;
        }

        /** Parts the things about k centres and tells the greatest way of a thing to its centre. */
        int partByCentres(int k) {
            // while centres are chosen, a thing's heap is known by its centre
            Arrays.fill(parting.heapOf, 0);
            for (int chosen = 1; chosen < k; chosen++) {
                gatherNearer(farthestFromCentre());
            }
            int radius = wayToCentre(farthestFromCentre());
            parting.renumber();
            return radius;
        }

        private int wayToCentre(int thing) {
            return wayOf(thing, parting.heapOf[thing]);
        }

        private int farthestFromCentre() {
            int found = 0;
            for (int thing = 1; thing < size; thing++) {
                if (wayToCentre(thing) > wayToCentre(found)) {
                    found = thing;
                }
            }
            return found;
        }

        private void gatherNearer(int centre) {
            for (int thing = 0; thing < size; thing++) {
                if (wayOf(thing, centre) < wayToCentre(thing)) {
                    parting.heapOf[thing] = centre;
                }
            }
        }
    }

    /** The scenes ahead of the latest changes; each is made once and used again, as in a ring. */
    private static final class History {
        int length = 0;
        private int next = 0;
        private final Scene[] scenes = new Scene[MOST_UNDONE];

        void remember(Scene scene) {
            if (scenes[next] == null) {
                scenes[next] = new Scene();
            }
            scenes[next].copyFrom(scene);
            next = next + 1 < MOST_UNDONE ? next + 1 : 0;
            length = Math.min(length + 1, MOST_UNDONE);
        }

        void bringBack(Scene scene) {
            int latest = next > 0 ? next - 1 : MOST_UNDONE - 1;
            if (length == 0 || scenes[latest] == null) {
                return;
            }
            scene.copyFrom(scenes[latest]);
            next = latest;
            length--;
        }
    }

    /** The sheet; its length is NONE while there is none, and what it has not is 0. */
    private static final class Sheet {
        static final int BYTES = 0;
        static final int SHORTS = 1;
        static final int INTS = 2;
        static final int MISSING = 4;

        int kind = NONE;
        int length = NONE;
        final long[] entries = new long[MOST_ENTRIES];

        void renew(int newKind, int newLength) {
            kind = newKind;
            length = newLength;
            Arrays.fill(entries, 0L);
        }

        void drop() {
            renew(NONE, NONE);
        }

        void write(int i, long v) {
            switch (kind) {
                case BYTES:
                    entries[i] = (byte) v;
                    break;
                case SHORTS:
                    entries[i] = (short) v;
                    break;
                case INTS:
                    entries[i] = (int) v;
                    break;
                default:
                    entries[i] = v;
                    break;
            }
        }

        boolean isPlace() {
            for (int i = 0; i < PLACE_NUMBERS; i++) {
                if (entries[i] < -FARTHEST_PLACE || entries[i] > FARTHEST_PLACE) {
                    return false;
                }
            }
            return true;
        }
    }

    /**
     * Costs of heaps, whose things are bits, and of partings. A parting's cost is its ground and then
     * one heap after the other: for QUARRELS all LIKE weights are the ground, and a heap takes back
     * those within it, so that each goal can be told heap by heap.
     */
    private static final class Costs {
        static long ofParting(Scene scene, int goal, Parting parting) {
            long sum = ground(scene, goal);
            for (int heap = 0; heap < parting.heaps; heap++) {
                sum = with(goal, sum, ofHeap(scene, goal, parting.membersOf(heap)));
            }
            return sum;
        }

        static long ground(Scene scene, int goal) {
            long sum = 0;
            for (int a = 1; a < scene.size && goal == QUARRELS; a++) {
                for (int b = 0; b < a; b++) {
                    sum += scene.likeOf(a, b) * scene.weightOf(a, b);
                }
            }
            return sum;
        }

        static long with(int goal, long sum, long part) {
            return goal == WIDE ? Math.max(sum, part) : sum + part;
        }

        static long ofHeap(Scene scene, int goal, int members) {
            switch (goal) {
                case SPREAD:
                    return spread(scene, members);
                case MIDDLE:
                    return sumFrom(scene, middleOf(scene, members), members);
                case WIDE:
                    return width(scene, members);
                default:
                    return quarrels(scene, members);
            }
        }

        static boolean has(int members, int thing) {
            return (members >> thing & 1) == 1;
        }

        private static long spread(Scene scene, int members) {
            long squares = 0;
            int size = 0;
            for (int a = 0; a < scene.size; a++) {
                if (!has(members, a)) {
                    continue;
                }
                size++;
                for (int b = 0; b < a; b++) {
                    if (has(members, b)) {
                        long way = scene.wayOf(a, b);
                        squares += way * way;
                    }
                }
            }
            return size == 0 ? 0 : squares * SPREAD_UNIT / size;
        }

        /** The least thing of those with the least sum of ways to all of the heap. */
        static int middleOf(Scene scene, int members) {
            int middle = NONE;
            long least = Long.MAX_VALUE;
            for (int thing = 0; thing < scene.size; thing++) {
                if (has(members, thing)) {
                    long sum = sumFrom(scene, thing, members);
                    if (sum < least) {
                        least = sum;
                        middle = thing;
                    }
                }
            }
            return middle;
        }

        private static long sumFrom(Scene scene, int thing, int members) {
            long sum = 0;
            for (int to = 0; to < scene.size && thing >= 0; to++) {
                if (has(members, to)) {
                    sum += scene.wayOf(thing, to);
                }
            }
            return sum;
        }

        private static long width(Scene scene, int members) {
            int widest = 0;
            for (int a = 1; a < scene.size; a++) {
                if (has(members, a)) {
                    widest = Math.max(widest, reach(scene, a, members, a));
                }
            }
            return widest;
        }

        /** The greatest way from a thing to those of a heap that are less than a bound. */
        static int reach(Scene scene, int thing, int members, int bound) {
            int widest = 0;
            for (int to = 0; to < bound; to++) {
                if (has(members, to)) {
                    widest = Math.max(widest, scene.wayOf(thing, to));
                }
            }
            return widest;
        }

        private static long quarrels(Scene scene, int members) {
            long sum = 0;
            for (int a = 1; a < scene.size; a++) {
                for (int b = 0; b < a && has(members, a); b++) {
                    if (has(members, b)) {
                        int weight = scene.weightOf(a, b);
                        sum += scene.likeOf(a, b) == 1 ? -weight : weight;
                    }
                }
            }
            return sum;
        }
    }

    /**
     * All partings with some number of heaps, in the order of their names: the first one of least
     * cost is that of least rank.
     */
    private static final class Search {
        private final long[] heapCosts = new long[1 << MOST_FOR_BEST];
        private final int[] members = new int[MOST_THINGS];
        private final int[] heapOf = new int[MOST_THINGS];
        private long leastCost = 0;
        private int goal = 0;
        private int fewest = 0;
        private int most = 0;

        /** Makes the scene's parting the best one; goals but WIDE only for things that best() takes. */
        long run(Scene scene, int byGoal, int atLeast, int atMost) {
            goal = byGoal;
            fewest = atLeast;
            most = atMost;
            leastCost = Long.MAX_VALUE;
            if (goal != WIDE) {
                costAllHeaps(scene);
            }
            Arrays.fill(members, 0);
            descend(scene, 0, 0, Costs.ground(scene, goal));
            return leastCost;
        }

        private void costAllHeaps(Scene scene) {
            int all = Math.min(1 << scene.size, heapCosts.length);
            for (int heap = 0; heap < all; heap++) {
                heapCosts[heap] = Costs.ofHeap(scene, goal, heap);
            }
        }

        private void descend(Scene scene, int thing, int heaps, long cost) {
            if (thing >= scene.size || thing >= MOST_THINGS) {
                take(scene, heaps, cost);
                return;
            }
            if (heaps + scene.size - thing < fewest) {
                return;
            }
            int last = Math.min(heaps, most - 1);
            for (int heap = 0; heap <= last && heap < MOST_THINGS; heap++) {
                int before = members[heap];
                long grown = grown(scene, cost, before, thing);
                // WIDE can't fall by more things; the other goals can
                if (goal == WIDE && grown >= leastCost) {
                    continue;
                }
                members[heap] = before | 1 << thing;
                heapOf[thing] = heap;
                descend(scene, thing + 1, heap == heaps ? heaps + 1 : heaps, grown);
                members[heap] = before;
            }
        }

        private long grown(Scene scene, long cost, int before, int thing) {
            if (goal == WIDE) {
                return Math.max(cost, Costs.reach(scene, thing, before, thing));
            }
            int after = before | 1 << thing;
            if (after >= heapCosts.length) {
                return cost;
            }
            return cost - heapCosts[before] + heapCosts[after];
        }

        private void take(Scene scene, int heaps, long cost) {
            if (heaps < fewest || cost >= leastCost) {
                return;
            }
            leastCost = cost;
            System.arraycopy(heapOf, 0, scene.parting.heapOf, 0, scene.size);
            scene.parting.heaps = heaps;
        }
    }

    /** Partings in spans of the things' order on a line. */
    private static final class Line {
        private final int[] order = new int[MOST_THINGS];
        private final long[] spanCosts = new long[MOST_THINGS * MOST_THINGS];
        private final Parting trial = new Parting();
        // a scene of its own, as its ways are those on the line
        private final Scene flat = new Scene();

        long run(Scene scene, int goal, int k) {
            flatten(scene);
            sortThings(scene);
            costAllSpans(goal);
            trial.size = scene.size;
            long least = Long.MAX_VALUE;
            // a bit for each gap of the order: where it is set, a span ends
            for (int ends = 0; ends < 1 << (scene.size - 1); ends++) {
                if (Integer.bitCount(ends) != k - 1) {
                    continue;
                }
                long cost = costOf(goal, ends);
                if (cost > least) {
                    continue;
                }
                partBy(ends);
                if (cost < least || trial.standsAhead(scene.parting)) {
                    least = cost;
                    scene.parting.copyFrom(trial);
                }
            }
            return least;
        }

        private void flatten(Scene scene) {
            flat.size = scene.size;
            for (int a = 1; a < scene.size; a++) {
                for (int b = 0; b < a; b++) {
                    flat.setWay(a, b, Math.abs(scene.firstNumber(a) - scene.firstNumber(b)));
                }
            }
        }

        private void sortThings(Scene scene) {
            for (int thing = 0; thing < scene.size; thing++) {
                int at = thing;
                while (at > 0 && scene.firstNumber(order[at - 1]) > scene.firstNumber(thing)) {
                    order[at] = order[at - 1];
                    at--;
                }
                order[at] = thing;
            }
        }

        private void costAllSpans(int goal) {
            for (int from = 0; from < flat.size; from++) {
                int members = 0;
                for (int to = from; to < flat.size; to++) {
                    members |= 1 << order[to];
                    spanCosts[from * MOST_THINGS + to] = Costs.ofHeap(flat, goal, members);
                }
            }
        }

        private boolean endsAt(int ends, int at) {
            return at == flat.size - 1 || Costs.has(ends, at);
        }

        private long costOf(int goal, int ends) {
            long cost = 0;
            int from = 0;
            for (int at = 0; at < flat.size; at++) {
                if (endsAt(ends, at)) {
                    cost = Costs.with(goal, cost, spanCosts[from * MOST_THINGS + at]);
                    from = at + 1;
                }
            }
            return cost;
        }

        private void partBy(int ends) {
            int heap = 0;
            for (int at = 0; at < flat.size; at++) {
                trial.heapOf[order[at]] = heap;
                heap += endsAt(ends, at) ? 1 : 0;
            }
            trial.renumber();
        }
    }

    /** Single moves, each the one by which the cost falls most. */
    private static final class Moves {
        // cost falls by each move, so there are far fewer than this
        private static final int MOST_MOVES = 1000000;

        private final int[] members = new int[MOST_THINGS];
        private final long[] parts = new long[MOST_THINGS];
        private long ground = 0;

        int run(Scene scene, int goal) {
            int made = 0;
            while (made < MOST_MOVES && makeBestMove(scene, goal)) {
                made++;
            }
            return made;
        }

        private void weighHeaps(Scene scene, int goal) {
            ground = Costs.ground(scene, goal);
            for (int heap = 0; heap < scene.parting.heaps; heap++) {
                members[heap] = scene.parting.membersOf(heap);
                parts[heap] = Costs.ofHeap(scene, goal, members[heap]);
            }
        }

        private boolean makeBestMove(Scene scene, int goal) {
            weighHeaps(scene, goal);
            Parting parting = scene.parting;
            long least = Costs.ofParting(scene, goal, parting);
            int mover = NONE;
            int target = NONE;
            for (int thing = 0; thing < scene.size; thing++) {
                int own = parting.heapOf[thing];
                boolean alone = members[own] == 1 << thing;
                int last = alone ? parting.heaps - 1 : parting.heaps;
                for (int heap = 0; heap <= last; heap++) {
                    if (heap == own) {
                        continue;
                    }
                    long cost = costAfter(scene, goal, thing, heap);
                    if (cost < least) {
                        least = cost;
                        mover = thing;
                        target = heap;
                    }
                }
            }
            if (mover == NONE) {
                return false;
            }
            parting.heapOf[mover] = target;
            parting.renumber();
            return true;
        }

        private long costAfter(Scene scene, int goal, int thing, int target) {
            int heaps = scene.parting.heaps;
            int own = scene.parting.heapOf[thing];
            long sum = ground;
            for (int heap = 0; heap < heaps; heap++) {
                if (heap != own && heap != target) {
                    sum = Costs.with(goal, sum, parts[heap]);
                }
            }
            int joined = (target < heaps ? members[target] : 0) | 1 << thing;
            sum = Costs.with(goal, sum, Costs.ofHeap(scene, goal, members[own] & ~(1 << thing)));
            return Costs.with(goal, sum, Costs.ofHeap(scene, goal, joined));
        }
    }

    /** Partings about pivots that take all they like, and rounds that can't be without a quarrel. */
    private static final class Likes {
        // how many orders of 0, 1, .. things there are
        private static final int[] ORDERS = {1, 1, 2, 6, 24, 120, 720, 5040};

        private final int[] order = new int[MOST_THINGS];
        private final long[] sums = new long[1 << MOST_FOR_THIRDS];

        void shuffle(int seed, int n) {
            for (int i = 0; i < n; i++) {
                order[i] = i;
            }
            int r = seed;
            for (int i = n - 1; i >= 1; i--) {
                r = r * 1103515245 + 12345;
                int j = (r >>> 16) % (i + 1);
                int moved = order[i];
                order[i] = order[j];
                order[j] = moved;
            }
        }

        /** Parts the scene's things by the order that was shuffled last. */
        void gather(Scene scene) {
            Parting parting = scene.parting;
            int left = (1 << scene.size) - 1;
            int heap = 0;
            for (int i = 0; i < scene.size; i++) {
                if (!Costs.has(left, order[i])) {
                    continue;
                }
                int members = likedBy(scene, order[i], left);
                for (int thing = 0; thing < scene.size; thing++) {
                    if (Costs.has(members, thing)) {
                        parting.heapOf[thing] = heap;
                    }
                }
                left &= ~members;
                heap++;
            }
            parting.renumber();
        }

        private static int likedBy(Scene scene, int pivot, int left) {
            int members = 1 << pivot;
            for (int thing = 0; thing < scene.size; thing++) {
                if (Costs.has(left, thing) && scene.pulls(pivot, thing)) {
                    members |= 1 << thing;
                }
            }
            return members;
        }

        /**
         * What the orders of a set of things cost in all, for each set: each of its things is as
         * often the first one, and what it leaves then comes in each of its own orders as often.
         */
        long sumOverOrders(Scene scene) {
            int all = Math.min(1 << scene.size, sums.length);
            sums[0] = 0;
            for (int set = 1; set < all; set++) {
                sums[set] = sumOver(scene, set);
            }
            return sums[all - 1];
        }

        private long sumOver(Scene scene, int set) {
            int behind = ORDERS[Integer.bitCount(set) - 1];
            long sum = 0;
            for (int pivot = 0; pivot < scene.size; pivot++) {
                if (Costs.has(set, pivot)) {
                    int members = likedBy(scene, pivot, set);
                    int left = set & ~members;
                    int repeats = behind / ORDERS[Integer.bitCount(left)];
                    sum += behind * costOfTaking(scene, members, left) + repeats * sums[left];
                }
            }
            return sum;
        }

        private static long costOfTaking(Scene scene, int members, int left) {
            long cost = 0;
            for (int a = 0; a < scene.size; a++) {
                for (int b = 0; b < scene.size && Costs.has(members, a); b++) {
                    boolean within = b < a && Costs.has(members, b) && scene.likeOf(a, b) == 0;
                    boolean across = Costs.has(left, b) && scene.likeOf(a, b) == 1;
                    cost += within || across ? scene.weightOf(a, b) : 0;
                }
            }
            return cost;
        }

        static int brokenRounds(Scene scene) {
            int rounds = 0;
            for (int a = 2; a < scene.size; a++) {
                for (int b = 1; b < a; b++) {
                    for (int c = 0; c < b; c++) {
                        rounds += isBroken(scene, a, b, c) ? 1 : 0;
                    }
                }
            }
            return rounds;
        }

        private static boolean isBroken(Scene scene, int a, int b, int c) {
            boolean heavy = scene.weightOf(a, b) > 0 && scene.weightOf(a, c) > 0 && scene.weightOf(b, c) > 0;
            return heavy && scene.likeOf(a, b) + scene.likeOf(a, c) + scene.likeOf(b, c) == 2;
        }
    }

    /** The tree of joins; its length is NONE while there is none. */
    private static final class Tree {
        int length = NONE;
        private int size = 0;
        final int[] one = new int[MOST_THINGS];
        final int[] other = new int[MOST_THINGS];
        final int[] heights = new int[MOST_THINGS];
        // heights between heaps, each known by its least thing
        private final int[] between = new int[MOST_THINGS * MOST_THINGS];
        private int heapsLeft = 0;

        void drop() {
            length = NONE;
        }

        void grow(Scene scene, int kind) {
            size = scene.size;
            System.arraycopy(scene.ways, 0, between, 0, between.length);
            heapsLeft = (1 << size) - 1;
            length = size - 1;
            for (int i = 0; i < size - 1; i++) {
                findLowest(i);
                joinLowest(i, kind);
            }
        }

        private void findLowest(int i) {
            heights[i] = Integer.MAX_VALUE;
            for (int a = 0; a < size; a++) {
                for (int b = a + 1; b < size && Costs.has(heapsLeft, a); b++) {
                    int height = between[a * MOST_THINGS + b];
                    if (Costs.has(heapsLeft, b) && height < heights[i]) {
                        one[i] = a;
                        other[i] = b;
                        heights[i] = height;
                    }
                }
            }
        }

        private void joinLowest(int i, int kind) {
            int a = one[i];
            int b = other[i];
            heapsLeft &= ~(1 << b);
            for (int c = 0; c < size; c++) {
                int fromA = between[a * MOST_THINGS + c];
                int fromB = between[b * MOST_THINGS + c];
                int height = kind == 0 ? Math.min(fromA, fromB) : Math.max(fromA, fromB);
                between[a * MOST_THINGS + c] = height;
                between[c * MOST_THINGS + a] = height;
            }
        }

        int heightOf(int a, int b) {
            int heapOfA = a;
            int heapOfB = b;
            for (int i = 0; i < length && a != b; i++) {
                heapOfA = heapOfA == other[i] ? one[i] : heapOfA;
                heapOfB = heapOfB == other[i] ? one[i] : heapOfB;
                if (heapOfA == heapOfB) {
                    return heights[i];
                }
            }
            return 0;
        }

        void partBelow(int h, Parting parting) {
            for (int thing = 0; thing < parting.size; thing++) {
                parting.heapOf[thing] = thing;
            }
            // heights never fall from join to join, so what stays out comes last
            for (int i = 0; i < length && heights[i] <= h; i++) {
                for (int thing = 0; thing < parting.size; thing++) {
                    if (parting.heapOf[thing] == other[i]) {
                        parting.heapOf[thing] = one[i];
                    }
                }
            }
            parting.renumber();
        }
    }

    /** Partings counted, and their names numbered in order. */
    private static final class Names {
        private static final int WIDTH = MOST_THINGS + 1;

        // behind a name's beginning with so many heaps: how many ways to go on with so many things
        private final long[] endings = new long[WIDTH * WIDTH];
        private final long[] byHeaps = new long[WIDTH];

        Names() {
            for (int heaps = 0; heaps < WIDTH; heaps++) {
                endings[heaps * WIDTH] = 1;
            }
            for (int things = 1; things < WIDTH; things++) {
                for (int heaps = 0; heaps + things < WIDTH; heaps++) {
                    endings[heaps * WIDTH + things] = heaps * endings[heaps * WIDTH + things - 1]
                            + endings[(heaps + 1) * WIDTH + things - 1];
                }
            }
        }

        long allOf(int n) {
            return endings[n];
        }

        long withHeaps(int n, int k) {
            Arrays.fill(byHeaps, 0L);
            byHeaps[0] = 1;
            for (int things = 1; things <= n; things++) {
                for (int heaps = things; heaps >= 1; heaps--) {
                    byHeaps[heaps] = heaps * byHeaps[heaps] + byHeaps[heaps - 1];
                }
                byHeaps[0] = 0;
            }
            return byHeaps[k];
        }

        long rankOf(Parting parting) {
            long ahead = 0;
            int heaps = 0;
            for (int thing = 0; thing < parting.size; thing++) {
                int heap = parting.heapOf[thing];
                ahead += heap * endings[heaps * WIDTH + parting.size - 1 - thing];
                heaps = Math.max(heaps, heap + 1);
            }
            return ahead;
        }

        void unrank(long rank, Parting parting) {
            long ahead = rank;
            int heaps = 0;
            for (int thing = 0; thing < parting.size; thing++) {
                long step = endings[heaps * WIDTH + parting.size - 1 - thing];
                int heap = 0;
                while (heap < heaps && ahead >= step) {
                    ahead -= step;
                    heap++;
                }
                parting.heapOf[thing] = heap;
                heaps = Math.max(heaps, heap + 1);
            }
            parting.heaps = heaps;
        }
    }
}
