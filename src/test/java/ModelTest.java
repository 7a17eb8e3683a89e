import java.util.ArrayList;
import java.util.List;
import java.util.Random;

/**
 * Compares BayesFactors with a second program that is written another way: values are held one by one,
 * sums are built by setting variable after variable, and separation is judged by looking at every way
 * between the two variables (a way is open if each common child on it has itself or a descendant
 * observed, and each other variable on it is not observed).
 */
public final class ModelTest {
    private static final int CALLS_OF_AN_OBJECT = 512;
    private static final int RUNS = 3000;
    private static final int[] WRONG = {-1, -2, 2, 3, 7, 8, 9, 10, 16, 31, 32, 33, 64, 128, 1 << 30,
        Integer.MIN_VALUE, Integer.MIN_VALUE + 1, Integer.MAX_VALUE};

    private static int wrong = 0;

    public static void main(String[] args) {
        for (int run = 0; run < RUNS && wrong < 20; run++) {
            compareRun(run);
        }
        for (int n = 2; n <= 5 && wrong < 20; n++) {
            compareEverySeparation(n);
        }
        System.out.println(wrong == 0 ? "all answers are as due" : wrong + " answers are not as due");
        if (wrong != 0) {
            System.exit(1);
        }
    }

    private static void due(String where, String call, long got, long want) {
        if (got != want) {
            wrong++;
            System.out.println(where + ": " + call + " answered " + got + ", due is " + want);
        }
    }

    private static void compareRun(int run) {
        Random random = new Random(run);
        int size = random.nextInt(12) - 1;
        BayesFactors x = new BayesFactors(size);
        Model m = new Model(size);
        // In some runs the network is changed much, in others it is made first and then asked.
        int changes = 1 + random.nextInt(4);
        int call = 0;
        for (int v = 0; v < m.n; v++) {
            int set = random.nextInt(1 << v);
            due("run " + run, "parents(" + v + ", " + set + ")", x.parents(v, set), m.parents(v, set));
            int seed = random.nextInt(10);
            due("run " + run, "sow(" + v + ", " + seed + ")", x.sow(v, seed), m.sow(v, seed));
            call += 2;
        }
        for (; call < CALLS_OF_AN_OBJECT; call++) {
            String where = "run " + run + " of " + m.n + ", call " + call;
            if (random.nextInt(6) < changes) {
                change(where, random, x, m);
            } else {
                ask(where, random, x, m);
            }
        }
    }

    private static int pick(Random random, int below) {
        if (random.nextInt(24) == 0) {
            return WRONG[random.nextInt(WRONG.length)];
        }
        return random.nextInt(below);
    }

    private static void change(String where, Random random, BayesFactors x, Model m) {
        int v = pick(random, m.n);
        switch (random.nextInt(8)) {
            case 0: {
                int set = pick(random, v > 0 && v < 7 ? 1 << v : 2);
                due(where, "parents(" + v + ", " + set + ")", x.parents(v, set), m.parents(v, set));
                break;
            }
            case 1: {
                int seed = pick(random, 10);
                due(where, "sow(" + v + ", " + seed + ")", x.sow(v, seed), m.sow(v, seed));
                break;
            }
            case 2:
            case 3: {
                int value = pick(random, 3);
                due(where, "observe(" + v + ", " + value + ")", x.observe(v, value), m.observe(v, value));
                break;
            }
            case 4: {
                due(where, "observe(" + v + ", 2)", x.observe(v, 2), m.observe(v, 2));
                break;
            }
            default: {
                int row = pick(random, m.good(v) ? 1 << m.parents.get(v).size() : 8);
                int own = pick(random, 2);
                int entry = pick(random, 10);
                due(where, "enter(" + v + ", " + row + ", " + own + ", " + entry + ")",
                    x.enter(v, row, own, entry), m.enter(v, row, own, entry));
                break;
            }
        }
    }

    private static void ask(String where, Random random, BayesFactors x, Model m) {
        int u = pick(random, m.n);
        int a = pick(random, 2);
        int v = pick(random, m.n);
        int b = pick(random, 2);
        switch (random.nextInt(12)) {
            case 0: {
                due(where, "variables()", x.variables(), m.n);
                break;
            }
            case 1: {
                due(where, "parentsOf(" + v + ")", x.parentsOf(v), m.parentsOf(v));
                break;
            }
            case 2: {
                int number = pick(random, 1 << m.n);
                due(where, "weight(" + number + ")", x.weight(number), m.weight(number));
                break;
            }
            case 3: {
                due(where, "total()", x.total(), m.total());
                break;
            }
            case 4: {
                due(where, "totalWith(" + v + ", " + b + ")", x.totalWith(v, b), m.totalWith(v, b));
                break;
            }
            case 5: {
                due(where, "totalPair(" + u + ", " + a + ", " + v + ", " + b + ")",
                    x.totalPair(u, a, v, b), m.totalPair(u, a, v, b));
                break;
            }
            case 6: {
                due(where, "best()", x.best(), m.best());
                break;
            }
            case 7: {
                due(where, "bestNumber()", x.bestNumber(), m.bestNumber());
                break;
            }
            case 8: {
                due(where, "bestWith(" + v + ", " + b + ")", x.bestWith(v, b), m.bestWith(v, b));
                break;
            }
            case 9: {
                due(where, "separated(" + u + ", " + v + ")", x.separated(u, v), m.separated(u, v));
                break;
            }
            case 10: {
                due(where, "independent(" + u + ", " + v + ")", x.independent(u, v), m.independent(u, v));
                break;
            }
            default: {
                due(where, "blanket(" + v + ")", x.blanket(v), m.blanket(v));
                break;
            }
        }
    }

    /** Every network of n variables, every set of observed ones, every two variables. */
    private static void compareEverySeparation(int n) {
        int networks = 1 << n * (n - 1) / 2;
        for (int network = 0; network < networks; network++) {
            for (int observed = 0; observed < 1 << n; observed++) {
                BayesFactors x = new BayesFactors(n);
                Model m = new Model(n);
                for (int v = 1; v < n; v++) {
                    int set = network >> v * (v - 1) / 2 & (1 << v) - 1;
                    x.parents(v, set);
                    m.parents(v, set);
                }
                for (int v = 0; v < n; v++) {
                    int value = (observed >> v & 1) == 0 ? 2 : v & 1;
                    x.observe(v, value);
                    m.observe(v, value);
                }
                String where = "network " + network + " of " + n + ", observed " + observed;
                for (int u = 0; u < n; u++) {
                    due(where, "blanket(" + u + ")", x.blanket(u), m.blanket(u));
                    for (int v = 0; v < n; v++) {
                        due(where, "separated(" + u + ", " + v + ")", x.separated(u, v), m.separated(u, v));
                    }
                }
            }
        }
    }

    private static final class Model {
        final int n;
        final List<List<Integer>> parents = new ArrayList<>();
        final List<int[][]> tables = new ArrayList<>();
        final int[] observed;

        Model(int size) {
            n = Math.max(2, Math.min(7, size));
            observed = new int[n];
            for (int v = 0; v < n; v++) {
                observed[v] = 2;
                parents.add(new ArrayList<>());
                tables.add(tableOfOnes(0));
            }
        }

        static int[][] tableOfOnes(int parentCount) {
            int[][] table = new int[(int) Math.pow(2, parentCount)][];
            for (int row = 0; row < table.length; row++) {
                table[row] = new int[] {1, 1};
            }
            return table;
        }

        boolean good(int v) {
            return 0 <= v && v < n;
        }

        int parents(int v, int set) {
            if (!good(v)) {
                return -1;
            }
            List<Integer> members = new ArrayList<>();
            for (int p = 0; p < 32; p++) {
                if ((set >>> p) % 2 != 0) {
                    members.add(p);
                }
            }
            if (members.size() > 3 || members.stream().anyMatch(p -> p >= v)) {
                return -2;
            }
            int before = parentsOf(v);
            parents.set(v, members);
            tables.set(v, tableOfOnes(members.size()));
            return before;
        }

        int enter(int v, int row, int own, int entry) {
            if (!good(v)) {
                return -1;
            }
            int[][] table = tables.get(v);
            if (row < 0 || row >= table.length) {
                return -2;
            }
            if (own < 0 || own > 1) {
                return -3;
            }
            if (entry < 0 || entry > 9) {
                return -4;
            }
            int before = table[row][own];
            table[row][own] = entry;
            return before;
        }

        int sow(int v, int seed) {
            if (!good(v)) {
                return -1;
            }
            if (seed < 0 || seed > 9) {
                return -2;
            }
            int[][] table = tables.get(v);
            for (int row = 0; row < table.length; row++) {
                table[row][0] = (seed + 3 * row) % 10;
                table[row][1] = (seed + 4 * row + 5) % 10;
            }
            return table.length * 2;
        }

        int observe(int v, int value) {
            if (!good(v)) {
                return -1;
            }
            if (value < 0 || value > 2) {
                return -2;
            }
            int before = observed[v];
            observed[v] = value;
            return before;
        }

        int parentsOf(int v) {
            return good(v) ? parents.get(v).stream().mapToInt(p -> 1 << p).sum() : -1;
        }

        int factor(int v, int[] values) {
            int row = 0;
            int worth = 1;
            for (int p : parents.get(v)) {
                row += worth * values[p];
                worth *= 2;
            }
            return tables.get(v)[row][values[v]];
        }

        int weight(int number) {
            if (number < 0 || number >= Math.pow(2, n)) {
                return -1;
            }
            int[] values = new int[n];
            for (int v = 0, rest = number; v < n; v++, rest /= 2) {
                values[v] = rest % 2;
            }
            int weight = 1;
            for (int v = 0; v < n; v++) {
                weight *= factor(v, values);
            }
            return weight;
        }

        /** Whether v may have the value, with the observed ones and the wanted ones (2 for any). */
        boolean allowed(int v, int value, int[] wanted) {
            return (observed[v] == 2 || observed[v] == value) && (wanted[v] == 2 || wanted[v] == value);
        }

        long sum(int v, int[] values, int[] wanted) {
            if (v == n) {
                return 1;
            }
            long sum = 0;
            for (int value = 0; value <= 1; value++) {
                if (allowed(v, value, wanted)) {
                    values[v] = value;
                    int factor = factor(v, values);
                    sum += factor * sum(v + 1, values, wanted);
                }
            }
            return sum;
        }

        int greatest(int v, int[] values, int[] wanted) {
            if (v == n) {
                return 1;
            }
            int greatest = 0;
            for (int value = 0; value <= 1; value++) {
                if (allowed(v, value, wanted)) {
                    values[v] = value;
                    int factor = factor(v, values);
                    greatest = Math.max(greatest, factor * greatest(v + 1, values, wanted));
                }
            }
            return greatest;
        }

        int[] anything() {
            int[] wanted = new int[n];
            java.util.Arrays.fill(wanted, 2);
            return wanted;
        }

        long total() {
            return sum(0, new int[n], anything());
        }

        long totalWith(int v, int value) {
            if (!good(v)) {
                return -1;
            }
            if (value != 0 && value != 1) {
                return -2;
            }
            int[] wanted = anything();
            wanted[v] = value;
            return sum(0, new int[n], wanted);
        }

        long totalPair(int u, int a, int v, int b) {
            if (!good(u) || !good(v)) {
                return -1;
            }
            if (a < 0 || a > 1 || b < 0 || b > 1) {
                return -2;
            }
            if (u == v) {
                return a == b ? totalWith(u, a) : 0;
            }
            int[] wanted = anything();
            wanted[u] = a;
            wanted[v] = b;
            return sum(0, new int[n], wanted);
        }

        int best() {
            return greatest(0, new int[n], anything());
        }

        int bestNumber() {
            int best = best();
            int least = -1;
            for (int number = (1 << n) - 1; number >= 0; number--) {
                boolean agrees = true;
                for (int v = 0; v < n; v++) {
                    agrees &= observed[v] == 2 || observed[v] == (number >> v) % 2;
                }
                if (agrees && weight(number) == best) {
                    least = number;
                }
            }
            return least;
        }

        int bestWith(int v, int value) {
            if (!good(v)) {
                return -1;
            }
            if (value != 0 && value != 1) {
                return -2;
            }
            if (observed[v] != 2 && observed[v] != value) {
                return -3;
            }
            int[] wanted = anything();
            wanted[v] = value;
            return greatest(0, new int[n], wanted);
        }

        boolean isParent(int p, int v) {
            return parents.get(v).contains(p);
        }

        boolean observedHereOrBelow(int v) {
            if (observed[v] != 2) {
                return true;
            }
            for (int child = v + 1; child < n; child++) {
                if (isParent(v, child) && observedHereOrBelow(child)) {
                    return true;
                }
            }
            return false;
        }

        /** Whether a way that came from before to here can be led on to goal, by variables not yet used. */
        boolean openWay(int before, int here, int goal, boolean[] used) {
            if (here == goal) {
                return true;
            }
            for (int next = 0; next < n; next++) {
                if (used[next] || !isParent(here, next) && !isParent(next, here)) {
                    continue;
                }
                boolean commonChild = before >= 0 && isParent(before, here) && isParent(next, here);
                boolean open = before < 0 || (commonChild ? observedHereOrBelow(here) : observed[here] == 2);
                if (open) {
                    used[next] = true;
                    boolean found = openWay(here, next, goal, used);
                    used[next] = false;
                    if (found) {
                        return true;
                    }
                }
            }
            return false;
        }

        int separated(int u, int v) {
            if (!good(u) || !good(v)) {
                return -1;
            }
            if (u == v) {
                return -2;
            }
            if (observed[u] != 2 || observed[v] != 2) {
                return -3;
            }
            boolean[] used = new boolean[n];
            used[u] = true;
            return openWay(-1, u, v, used) ? 0 : 1;
        }

        int independent(int u, int v) {
            if (!good(u) || !good(v)) {
                return -1;
            }
            boolean equal = true;
            for (int a = 0; a <= 1; a++) {
                for (int b = 0; b <= 1; b++) {
                    equal &= Math.multiplyExact(total(), totalPair(u, a, v, b))
                        == Math.multiplyExact(totalWith(u, a), totalWith(v, b));
                }
            }
            return equal ? 1 : 0;
        }

        int blanket(int v) {
            if (!good(v)) {
                return -1;
            }
            int set = 0;
            for (int w = 0; w < n; w++) {
                boolean inside = isParent(w, v) || isParent(v, w);
                for (int child = 0; child < n; child++) {
                    inside |= isParent(v, child) && isParent(w, child);
                }
                if (inside && w != v) {
                    set += 1 << w;
                }
            }
            return set;
        }
    }
}
