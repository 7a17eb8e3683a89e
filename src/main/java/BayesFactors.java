/** Networks of yes-or-no variables with weighted tables: sums, best assignments and separation. */
public final class BayesFactors {
    private static final int LEAST_COUNT = 2;
    private static final int GREATEST_COUNT = 7;
    private static final int MOST_PARENTS = 3;
    private static final int GREATEST_ENTRY = 9;
    private static final int GREATEST_SEED = 9;
    private static final int NOT_OBSERVED = 2;

    // Every table has the room of one with three parents (8 rows of 2), so that a change of parents moves nothing.
    private static final int TABLE_ROOM = 16;
    private static final int ALL_TABLES_ROOM = 112;

    private final int[] parentSets = new int[GREATEST_COUNT];
    private final int[] entries = new int[ALL_TABLES_ROOM];
    private final int count;

    // Observations are held as two sets so that agreeing is a single comparison;
    // observedOnes is always a part of observedSet.
    private int observedSet;
    private int observedOnes;

    public BayesFactors(int variables) {
        int n = variables;
        if (n < LEAST_COUNT) {
            n = LEAST_COUNT;
        }
        if (n > GREATEST_COUNT) {
            n = GREATEST_COUNT;
        }
        count = n;
        for (int v = 0; v < GREATEST_COUNT; v++) {
            fillTableWithOnes(v);
        }
    }

    public int variables() {
        return count;
    }

    public int parents(int v, int set) {
        if (!isGood(v)) {
            return -1;
        }
        if (!canBeParents(v, set)) {
            return -2;
        }
        int before = parentSets[v];
        parentSets[v] = set;
        fillTableWithOnes(v);
        return before;
    }

    public int enter(int v, int row, int own, int entry) {
        if (!isGood(v)) {
            return -1;
        }
        if (row < 0 || row >= rowCount(v)) {
            return -2;
        }
        if (!isValue(own)) {
            return -3;
        }
        if (entry < 0 || entry > GREATEST_ENTRY) {
            return -4;
        }
        int place = placeOf(v, row, own);
        int before = entries[place];
        entries[place] = entry;
        return before;
    }

    public int sow(int v, int seed) {
        if (!isGood(v)) {
            return -1;
        }
        if (seed < 0 || seed > GREATEST_SEED) {
            return -2;
        }
        int rows = rowCount(v);
        for (int r = 0; r < rows; r++) {
            for (int b = 0; b <= 1; b++) {
                int place = placeOf(v, r, b);
                entries[place] = (seed + 3 * r + 5 * b + r * b) % 10;
            }
        }
        return 2 * rows;
    }

    public int observe(int v, int value) {
        if (!isGood(v)) {
            return -1;
        }
        if (value < 0 || value > NOT_OBSERVED) {
            return -2;
        }
        int before = observedValue(v);
        int self = 1 << v;
        observedSet &= ~self;
        observedOnes &= ~self;
        if (value != NOT_OBSERVED) {
            observedSet |= self;
            observedOnes |= value << v;
        }
        return before;
    }

    public int parentsOf(int v) {
        if (!isGood(v)) {
            return -1;
        }
        return parentSets[v];
    }

    public int weight(int number) {
        if (number < 0 || number >= 1 << count) {
            return -1;
        }
        return weightOf(number);
    }

    public long total() {
        return sumWhere(0, 0);
    }

    public long totalWith(int v, int value) {
        if (!isGood(v)) {
            return -1;
        }
        if (!isValue(value)) {
            return -2;
        }
        return sumWhere(1 << v, value << v);
    }

    public long totalPair(int u, int a, int v, int b) {
        if (!isGood(u) || !isGood(v)) {
            return -1;
        }
        if (!isValue(a) || !isValue(b)) {
            return -2;
        }
        // One variable can't have both values, and the two sets below could not say so.
        if (u == v && a != b) {
            return 0;
        }
        return sumWhere(1 << u | 1 << v, a << u | b << v);
    }

    public int best() {
        return greatestWhere(0, 0);
    }

    public int bestNumber() {
        int greatest = greatestWhere(0, 0);
        int assignments = 1 << count;
        for (int number = 0; number < assignments; number++) {
            if (agrees(number) && weightOf(number) == greatest) {
                return number;
            }
        }
        // Never reached: some assignment always agrees, and one that does has the greatest weight.
        return 0;
    }

    public int bestWith(int v, int value) {
        if (!isGood(v)) {
            return -1;
        }
        if (!isValue(value)) {
            return -2;
        }
        if (observedValue(v) == 1 - value) {
            return -3;
        }
        return greatestWhere(1 << v, value << v);
    }

    public int separated(int u, int v) {
        if (!isGood(u) || !isGood(v)) {
            return -1;
        }
        if (u == v) {
            return -2;
        }
        int ends = 1 << u | 1 << v;
        if ((observedSet & ends) != 0) {
            return -3;
        }
        int members = withAncestors(ends | observedSet);
        int reached = 1 << u;
        // A way that visits no variable twice has fewer than count steps.
        for (int step = 1; step < count; step++) {
            reached |= linkedTo(reached, members) & ~observedSet;
        }
        return (reached & 1 << v) == 0 ? 1 : 0;
    }

    public int independent(int u, int v) {
        if (!isGood(u) || !isGood(v)) {
            return -1;
        }
        long all = total();
        for (int a = 0; a <= 1; a++) {
            for (int b = 0; b <= 1; b++) {
                if (all * totalPair(u, a, v, b) != totalWith(u, a) * totalWith(v, b)) {
                    return 0;
                }
            }
        }
        return 1;
    }

    public int blanket(int v) {
        if (!isGood(v)) {
            return -1;
        }
        int self = 1 << v;
        int everyVariable = (1 << count) - 1;
        return linkedTo(self, everyVariable) & ~self;
    }

    private boolean isGood(int v) {
        return v >= 0 && v < count;
    }

    private static boolean isValue(int value) {
        return value == 0 || value == 1;
    }

    private static boolean canBeParents(int v, int set) {
        return set >= 0 && set < 1 << v && sizeOf(set) <= MOST_PARENTS;
    }

    private static int sizeOf(int set) {
        int size = 0;
        for (int v = 0; v < GREATEST_COUNT; v++) {
            size += set >> v & 1;
        }
        return size;
    }

    private int rowCount(int v) {
        return 1 << sizeOf(parentSets[v]);
    }

    private static int placeOf(int v, int row, int own) {
        return v * TABLE_ROOM + row * 2 + own;
    }

    private void fillTableWithOnes(int v) {
        int start = v * TABLE_ROOM;
        for (int i = 0; i < TABLE_ROOM; i++) {
            entries[start + i] = 1;
        }
    }

    private int observedValue(int v) {
        if ((observedSet >> v & 1) == 0) {
            return NOT_OBSERVED;
        }
        return observedOnes >> v & 1;
    }

    private boolean agrees(int number) {
        return (number & observedSet) == observedOnes;
    }

    private int rowFor(int v, int number) {
        int row = 0;
        int k = 0;
        for (int p = 0; p < v; p++) {
            if ((parentSets[v] >> p & 1) == 1) {
                row |= (number >> p & 1) << k;
                k++;
            }
        }
        return row;
    }

    private int weightOf(int number) {
        int product = 1;
        for (int v = 0; v < count; v++) {
            int row = rowFor(v, number);
            int place = placeOf(v, row, number >> v & 1);
            product *= entries[place];
        }
        return product;
    }

    /** Over the agreeing assignments whose variables of the set fixed have the value 1 just where ones says so. */
    private long sumWhere(int fixed, int ones) {
        long sum = 0;
        int assignments = 1 << count;
        for (int number = 0; number < assignments; number++) {
            if (agrees(number) && (number & fixed) == ones) {
                sum += weightOf(number);
            }
        }
        return sum;
    }

    /** Over the same assignments as sumWhere. */
    private int greatestWhere(int fixed, int ones) {
        int greatest = 0;
        int assignments = 1 << count;
        for (int number = 0; number < assignments; number++) {
            if (agrees(number) && (number & fixed) == ones) {
                int weight = weightOf(number);
                if (weight > greatest) {
                    greatest = weight;
                }
            }
        }
        return greatest;
    }

    private int withAncestors(int set) {
        int closed = set;
        // Parents have lesser numbers, so going down meets every ancestor after all its children.
        for (int v = count - 1; v >= 0; v--) {
            if ((closed >> v & 1) == 1) {
                closed |= parentSets[v];
            }
        }
        return closed;
    }

    /**
     * The variables that share a family with one of the set, a family being a member and its parents.
     * Sharing a family is the same as being parent and child or parents of a common member.
     */
    private int linkedTo(int set, int members) {
        int linked = 0;
        for (int v = 0; v < count; v++) {
            int family = parentSets[v] | 1 << v;
            if ((members >> v & 1) == 1 && (family & set) != 0) {
                linked |= family;
            }
        }
        return linked;
    }
}
