import java.util.Random;

/**
 * Each sentence of "Terms" in the document has a test of its own here; what is due is worked out by the
 * plainest reading of the sentence, value by value and line by line.
 */
public final class TermsTest {
    private static final int LEAST_COUNT = 2;
    private static final int GREATEST_COUNT = 7;
    private static final int NETWORKS_OF_MANY = 1500;

    private static String sentence = "";
    private static int wrong = 0;

    public static void main(String[] args) {
        variablesAreNumberedFromZero();
        variablesAreZeroOrOne();
        numberIsTheSumOfPowers();
        parentsAreAtMostThreeLesserOnes();
        noParentsAtFirst();
        tableHasAnEntryForAllValues();
        entriesAreZeroToNine();
        entriesAreOneAtFirst();
        rowIsMadeOfTheParentsInRisingOrder();
        weightIsTheProductOverAllVariables();
        observedToBeZeroOrOne();
        noneIsObservedAtFirst();
        agreesWithTheObservedValues();
        membersAreEndsAndObserved();
        membersHaveTheirParentsAndSoOn();
        linesBetweenParentAndChild();
        linesBetweenParentsOfACommonMember();
        noLinesByWhatIsNoMember();
        everyWayPassesAnObservedOne();
        separationOfEveryFewVariables();
        separationOfManyVariables();
        noQuestionChangesAnything();
        refusedCallChangesNothing();
        testsAreMadeInTheOrderNamed();
        goodIsZeroToNMinusOne();
        sumsFitIntoALong();
        System.out.println(wrong == 0 ? "all answers are as due" : wrong + " answers are not as due");
        if (wrong != 0) {
            System.exit(1);
        }
    }

    // Variables and assignments

    private static void variablesAreNumberedFromZero() {
        sentence = "there are n variables, 0 .. n-1";
        for (int n = LEAST_COUNT; n <= GREATEST_COUNT; n++) {
            BayesFactors x = new BayesFactors(n);
            due("variables()", x.variables(), n);
            for (int v = 0; v < n; v++) {
                due("parentsOf(" + v + ") of " + n, x.parentsOf(v), 0);
                due("totalWith(" + v + ", 1) of " + n, x.totalWith(v, 1), 1L << n - 1);
            }
            due("parentsOf(-1) of " + n, x.parentsOf(-1), -1);
            due("parentsOf(n) of " + n, x.parentsOf(n), -1);
        }
    }

    private static void variablesAreZeroOrOne() {
        sentence = "each 0 or 1";
        for (int n = LEAST_COUNT; n <= GREATEST_COUNT; n++) {
            for (int v = 0; v < n; v++) {
                BayesFactors x = new BayesFactors(n);
                x.enter(v, 0, 0, 2);
                x.enter(v, 0, 1, 3);
                String name = v + " of " + n;
                due("with 0, " + name, x.totalWith(v, 0), 2L << n - 1);
                due("with 1, " + name, x.totalWith(v, 1), 3L << n - 1);
                due("no other value, " + name, x.total(), 5L << n - 1);
                due("with -1, " + name, x.totalWith(v, -1), -2);
                due("with 2, " + name, x.totalWith(v, 2), -2);
            }
        }
    }

    private static void numberIsTheSumOfPowers() {
        sentence = "its number is the sum of 2^v over the variables with the value 1";
        for (int n = LEAST_COUNT; n <= GREATEST_COUNT; n++) {
            for (int number = 0; number < 1 << n; number++) {
                int[] values = valuesOf(number, n);
                BayesFactors x = onlyWeighs(values);
                due("weight(" + number + ") of " + n, x.weight(number), 1);
                due("bestNumber() of " + n, x.bestNumber(), number);
                due("total() of " + n, x.total(), 1);
            }
        }
    }

    // Parents and tables

    private static void parentsAreAtMostThreeLesserOnes() {
        sentence = "a set of parents, at most 3 variables with lesser numbers";
        for (int n = LEAST_COUNT; n <= GREATEST_COUNT; n++) {
            for (int v = 0; v < n; v++) {
                BayesFactors x = new BayesFactors(n);
                int held = 0;
                for (int set = 0; set < 1 << n + 1; set++) {
                    String name = "parents(" + v + ", " + set + ") of " + n;
                    boolean allowed = mayBeParents(v, set);
                    due(name, x.parents(v, set), allowed ? held : -2);
                    held = allowed ? set : held;
                }
                due("parentsOf(" + v + ") of " + n, x.parentsOf(v), held);
            }
        }
    }

    private static void noParentsAtFirst() {
        sentence = "none at first";
        for (int n = LEAST_COUNT; n <= GREATEST_COUNT; n++) {
            BayesFactors x = new BayesFactors(n);
            for (int v = 0; v < n; v++) {
                due("parentsOf(" + v + ") of " + n, x.parentsOf(v), 0);
                due("blanket(" + v + ") of " + n, x.blanket(v), 0);
                due("enter(" + v + ", 1, 0, 1) of " + n, x.enter(v, 1, 0, 1), -2);
            }
        }
    }

    private static void tableHasAnEntryForAllValues() {
        sentence = "a table: for each values of its parents and each value of its own an entry";
        for (int v = 0; v < GREATEST_COUNT; v++) {
            for (int set = 0; set < 1 << v; set++) {
                if (mayBeParents(v, set)) {
                    holdsApart(v, set);
                }
            }
        }
    }

    private static void holdsApart(int v, int set) {
        BayesFactors x = new BayesFactors(GREATEST_COUNT);
        x.parents(v, set);
        int rows = rowsOf(set);
        // The entries by the first digit, then by the second, tell every place of the table from every other.
        for (int divisor = 1; divisor <= 10; divisor *= 10) {
            for (int row = 0; row < rows; row++) {
                x.enter(v, row, 0, 2 * row / divisor % 10);
                x.enter(v, row, 1, (2 * row + 1) / divisor % 10);
            }
            for (int row = 0; row < rows; row++) {
                String name = "entry of " + v + " with parents " + set + ", row " + row;
                due(name + " own 0", x.enter(v, row, 0, 0), 2 * row / divisor % 10);
                due(name + " own 1", x.enter(v, row, 1, 0), (2 * row + 1) / divisor % 10);
            }
        }
        due("no row beyond, of " + v + " with parents " + set, x.enter(v, rows, 0, 1), -2);
    }

    private static void entriesAreZeroToNine() {
        sentence = "an entry 0 .. 9";
        BayesFactors x = new BayesFactors(2);
        int held = 1;
        for (int entry = -3; entry <= 12; entry++) {
            boolean allowed = 0 <= entry && entry <= 9;
            due("enter(1, 0, 1, " + entry + ")", x.enter(1, 0, 1, entry), allowed ? held : -4);
            held = allowed ? entry : held;
            due("weight(2) with the entry " + held, x.weight(2), held);
        }
    }

    private static void entriesAreOneAtFirst() {
        sentence = "all 1 at first";
        for (int n = LEAST_COUNT; n <= GREATEST_COUNT; n++) {
            BayesFactors x = new BayesFactors(n);
            for (int number = 0; number < 1 << n; number++) {
                due("weight(" + number + ") of " + n, x.weight(number), 1);
            }
            for (int v = 0; v < n; v++) {
                due("own 0 of " + v + " of " + n, x.enter(v, 0, 0, 5), 1);
                due("own 1 of " + v + " of " + n, x.enter(v, 0, 1, 5), 1);
            }
        }
    }

    private static void rowIsMadeOfTheParentsInRisingOrder() {
        sentence = "the row is the number whose bit k is the value of the k-th parent, parents in rising order";
        BayesFactors x = new BayesFactors(7);
        x.parents(6, 2 + 8 + 32);
        x.enter(6, 1, 1, 2);
        x.enter(6, 2, 1, 3);
        x.enter(6, 4, 1, 5);
        due("the least parent alone is bit 0", x.weight(64 + 2), 2);
        due("the middle parent alone is bit 1", x.weight(64 + 8), 3);
        due("the greatest parent alone is bit 2", x.weight(64 + 32), 5);
        for (int v = 0; v < GREATEST_COUNT; v++) {
            for (int set = 0; set < 1 << v; set++) {
                if (mayBeParents(v, set)) {
                    tellsItsRows(v, set);
                }
            }
        }
    }

    private static void tellsItsRows(int v, int set) {
        BayesFactors x = new BayesFactors(GREATEST_COUNT);
        x.parents(v, set);
        for (int row = 0; row < rowsOf(set); row++) {
            x.enter(v, row, 0, row + 1);
            x.enter(v, row, 1, row + 2);
        }
        for (int number = 0; number < 1 << GREATEST_COUNT; number++) {
            int[] values = valuesOf(number, GREATEST_COUNT);
            due("weight(" + number + ") with parents " + set + " of " + v,
                x.weight(number), rowOf(set, values) + 1 + values[v]);
        }
    }

    private static void weightIsTheProductOverAllVariables() {
        sentence = "the weight is the product, over all variables, of the entry for the row and the own value";
        BayesFactors small = new BayesFactors(3);
        small.enter(0, 0, 1, 2);
        small.enter(1, 0, 1, 3);
        small.enter(2, 0, 1, 5);
        int[] products = {1, 2, 3, 6, 5, 10, 15, 30};
        for (int number = 0; number < 8; number++) {
            due("weight(" + number + ")", small.weight(number), products[number]);
        }
        Random random = new Random(1);
        for (int run = 0; run < 200; run++) {
            weighsByItsTables(random, LEAST_COUNT + run % 6);
        }
    }

    private static void weighsByItsTables(Random random, int n) {
        BayesFactors x = new BayesFactors(n);
        int[] sets = new int[n];
        int[][][] tables = new int[n][8][2];
        for (int v = 0; v < n; v++) {
            sets[v] = someParents(random, v);
            x.parents(v, sets[v]);
            for (int row = 0; row < rowsOf(sets[v]); row++) {
                for (int own = 0; own <= 1; own++) {
                    tables[v][row][own] = random.nextInt(40) == 0 ? 0 : 1 + random.nextInt(9);
                    x.enter(v, row, own, tables[v][row][own]);
                }
            }
        }
        for (int number = 0; number < 1 << n; number++) {
            int[] values = valuesOf(number, n);
            int product = 1;
            for (int v = 0; v < n; v++) {
                product *= tables[v][rowOf(sets[v], values)][values[v]];
            }
            due("weight(" + number + ") of " + n, x.weight(number), product);
        }
    }

    // Observed variables

    private static void observedToBeZeroOrOne() {
        sentence = "a variable may be observed to be 0 or 1";
        for (int n = LEAST_COUNT; n <= GREATEST_COUNT; n++) {
            for (int v = 0; v < n; v++) {
                BayesFactors x = new BayesFactors(n);
                x.enter(v, 0, 0, 2);
                x.enter(v, 0, 1, 3);
                String name = v + " of " + n + " observed to be ";
                x.observe(v, 0);
                due(name + "0", x.total(), 2L << n - 1);
                x.observe(v, 1);
                due(name + "1", x.total(), 3L << n - 1);
                due(name + "3", x.observe(v, 3), -2);
                due(name + "-1", x.observe(v, -1), -2);
                due(name + "1 still", x.observe(v, 2), 1);
                due(name + "nothing", x.total(), 5L << n - 1);
            }
        }
    }

    private static void noneIsObservedAtFirst() {
        sentence = "none is observed at first";
        for (int n = LEAST_COUNT; n <= GREATEST_COUNT; n++) {
            BayesFactors x = new BayesFactors(n);
            due("total() of " + n, x.total(), 1L << n);
            for (int v = 0; v < n; v++) {
                due("observe(" + v + ", 2) of " + n, x.observe(v, 2), 2);
            }
        }
    }

    private static void agreesWithTheObservedValues() {
        sentence = "an assignment agrees if it has the observed values";
        for (int n = LEAST_COUNT; n <= 5; n++) {
            int observations = (int) Math.pow(3, n);
            for (int number = 0; number < 1 << n; number++) {
                for (int code = 0; code < observations; code++) {
                    agreesOrNot(n, number, observationOf(code, n));
                }
            }
        }
        Random random = new Random(2);
        for (int run = 0; run < 2000; run++) {
            int n = 6 + run % 2;
            int code = random.nextInt((int) Math.pow(3, n));
            agreesOrNot(n, random.nextInt(1 << n), observationOf(code, n));
        }
    }

    private static void agreesOrNot(int n, int number, int[] observed) {
        int[] values = valuesOf(number, n);
        BayesFactors x = onlyWeighs(values);
        boolean agrees = true;
        for (int v = 0; v < n; v++) {
            x.observe(v, observed[v]);
            agrees &= observed[v] == 2 || observed[v] == values[v];
        }
        String name = "only " + number + " of " + n + " weighs: ";
        int due = agrees ? 1 : 0;
        due(name + "total()", x.total(), due);
        due(name + "best()", x.best(), due);
        due(name + "totalWith(0, " + values[0] + ")", x.totalWith(0, values[0]), due);
        due(name + "totalPair of the last two",
            x.totalPair(n - 1, values[n - 1], n - 2, values[n - 2]), due);
        if (agrees) {
            due(name + "bestNumber()", x.bestNumber(), number);
            due(name + "bestWith(1, " + values[1] + ")", x.bestWith(1, values[1]), 1);
        }
    }

    // Separation

    private static void membersAreEndsAndObserved() {
        sentence = "A is the set of u, v and all observed variables";
        BayesFactors x = new BayesFactors(4);
        x.parents(2, 3);
        due("the common child 2 is no member", x.separated(0, 1), 1);
        due("the common child 2 is an end", x.separated(0, 2), 0);
        x.observe(2, 0);
        due("the common child 2 is observed to be 0", x.separated(0, 1), 0);
        x.observe(2, 1);
        due("the common child 2 is observed to be 1", x.separated(0, 1), 0);
        x.observe(2, 2);
        due("it is observed no more", x.separated(0, 1), 1);
    }

    private static void membersHaveTheirParentsAndSoOn() {
        sentence = "together with all parents of members, their parents, and so on";
        BayesFactors x = new BayesFactors(7);
        x.parents(2, 3);
        x.parents(3, 4);
        x.parents(4, 8);
        x.parents(5, 16);
        x.parents(6, 32);
        due("nothing observed", x.separated(0, 1), 1);
        for (int v = 2; v <= 6; v++) {
            x.observe(v, 0);
            due(v + " observed, which comes from the common child 2", x.separated(0, 1), 0);
            x.observe(v, 2);
        }
        BayesFactors y = new BayesFactors(7);
        y.parents(2, 1);
        y.parents(4, 4);
        y.parents(3, 1);
        y.parents(5, 8);
        due("two chains from 0, which is no end", y.separated(4, 5), 0);
        y.observe(0, 1);
        due("two chains from 0, which is observed", y.separated(4, 5), 1);
    }

    private static void linesBetweenParentAndChild() {
        sentence = "a line between two members of which one is a parent of the other";
        BayesFactors x = new BayesFactors(4);
        x.parents(3, 1);
        for (int u = 0; u < 4; u++) {
            for (int v = 0; v < 4; v++) {
                boolean linked = u == 0 && v == 3 || u == 3 && v == 0;
                if (u != v) {
                    due("separated(" + u + ", " + v + ")", x.separated(u, v), linked ? 0 : 1);
                }
            }
        }
        x.observe(1, 1);
        x.observe(2, 0);
        due("the others observed", x.separated(0, 3), 0);
    }

    private static void linesBetweenParentsOfACommonMember() {
        sentence = "a line between two members that are both parents of a common member";
        BayesFactors x = new BayesFactors(4);
        x.parents(3, 7);
        x.observe(3, 1);
        for (int u = 0; u < 3; u++) {
            for (int v = 0; v < 3; v++) {
                if (u != v) {
                    due("separated(" + u + ", " + v + ")", x.separated(u, v), 0);
                }
            }
        }
        x.observe(1, 0);
        due("with the parent between them observed", x.separated(0, 2), 0);
        BayesFactors y = new BayesFactors(5);
        y.parents(3, 3);
        y.parents(4, 12);
        y.observe(4, 1);
        due("0 and 2: the line to 3, then that to 2", y.separated(0, 2), 0);
        y.observe(3, 0);
        due("0 and 2 with 3 observed", y.separated(0, 2), 1);
        due("0 and 1 with 3 observed", y.separated(0, 1), 0);
    }

    private static void noLinesByWhatIsNoMember() {
        sentence = "lines are drawn between members of A alone, and by common members of A alone";
        BayesFactors x = new BayesFactors(5);
        x.parents(2, 3);
        x.parents(3, 3);
        x.parents(4, 4);
        due("no common child is a member", x.separated(0, 1), 1);
        due("by 2, a parent of the end 4", x.separated(0, 4), 0);
        x.observe(2, 0);
        due("2 observed: 0 and 4", x.separated(0, 4), 1);
        due("2 observed: 3 and 4", x.separated(3, 4), 1);
        due("2 observed: 0 and 1", x.separated(0, 1), 0);
    }

    private static void everyWayPassesAnObservedOne() {
        sentence = "separated if every way along lines from u to v passes through an observed variable";
        BayesFactors x = new BayesFactors(7);
        x.parents(1, 1);
        x.parents(2, 1);
        x.parents(3, 1);
        x.parents(4, 2);
        x.parents(5, 4);
        x.parents(6, 16 + 32 + 8);
        int[] between = {1, 2, 3, 4, 5};
        // Ways lead from 0 to 6 by 1 and 4, by 2 and 5, and by 3; one that turns aside at 3, 4 or 5, along a line
        // between the parents of 6, could have gone on to 6 from there.
        for (int chosen = 0; chosen < 1 << between.length; chosen++) {
            int observed = chosen << 1;
            for (int v : between) {
                x.observe(v, (observed >> v & 1) == 1 ? v % 2 : 2);
            }
            boolean first = (observed & 2 + 16) != 0;
            boolean second = (observed & 4 + 32) != 0;
            boolean third = (observed & 8) != 0;
            due("separated(0, 6), observed " + observed, x.separated(0, 6), first && second && third ? 1 : 0);
            due("separated(6, 0), observed " + observed, x.separated(6, 0), first && second && third ? 1 : 0);
        }
    }

    private static void separationOfEveryFewVariables() {
        sentence = "separation, every network of 2 .. 4 variables";
        for (int n = LEAST_COUNT; n <= 4; n++) {
            for (int network = 0; network < 1 << n * (n - 1) / 2; network++) {
                int[] sets = new int[n];
                for (int v = 1; v < n; v++) {
                    sets[v] = network >> v * (v - 1) / 2 & (1 << v) - 1;
                }
                for (int observed = 0; observed < 1 << n; observed++) {
                    comparesSeparation(sets, observed);
                }
            }
        }
    }

    private static void separationOfManyVariables() {
        sentence = "separation, networks of 5 .. 7 variables";
        Random random = new Random(3);
        for (int run = 0; run < NETWORKS_OF_MANY; run++) {
            int[] sets = new int[5 + run % 3];
            for (int v = 0; v < sets.length; v++) {
                sets[v] = someParents(random, v);
            }
            for (int some = 0; some < 8; some++) {
                comparesSeparation(sets, random.nextInt(1 << sets.length) & random.nextInt(1 << sets.length));
            }
        }
    }

    private static void comparesSeparation(int[] sets, int observed) {
        int n = sets.length;
        BayesFactors x = new BayesFactors(n);
        for (int v = 0; v < n; v++) {
            x.parents(v, sets[v]);
            x.observe(v, (observed >> v & 1) == 1 ? v % 2 : 2);
        }
        for (int u = 0; u < n; u++) {
            for (int v = 0; v < n; v++) {
                if (u != v && (observed >> u & 1) == 0 && (observed >> v & 1) == 0) {
                    due("separated(" + u + ", " + v + ") of " + n + ", observed " + observed,
                        x.separated(u, v), separatedByTheWords(sets, observed, u, v) ? 1 : 0);
                }
            }
        }
    }

    private static boolean separatedByTheWords(int[] sets, int observed, int u, int v) {
        int n = sets.length;
        boolean[] member = new boolean[n];
        for (int w = 0; w < n; w++) {
            member[w] = w == u || w == v || has(observed, w);
        }
        for (boolean grown = true; grown;) {
            grown = false;
            for (int child = 0; child < n; child++) {
                for (int p = 0; p < n; p++) {
                    if (member[child] && has(sets[child], p) && !member[p]) {
                        member[p] = true;
                        grown = true;
                    }
                }
            }
        }
        boolean[][] line = new boolean[n][n];
        for (int a = 0; a < n; a++) {
            for (int b = 0; b < n; b++) {
                boolean drawn = has(sets[a], b) || has(sets[b], a);
                for (int child = 0; child < n; child++) {
                    drawn |= member[child] && has(sets[child], a) && has(sets[child], b);
                }
                line[a][b] = a != b && member[a] && member[b] && drawn;
            }
        }
        return !someWayIsFree(line, observed, u, v, new boolean[n]);
    }

    /** Whether a way from here to goal, over variables that are not used yet, passes no observed variable. */
    private static boolean someWayIsFree(boolean[][] line, int observed, int here, int goal, boolean[] used) {
        if (here == goal) {
            return true;
        }
        used[here] = true;
        boolean free = false;
        for (int next = 0; next < line.length && !free; next++) {
            free = line[here][next] && !used[next] && !has(observed, next)
                && someWayIsFree(line, observed, next, goal, used);
        }
        used[here] = false;
        return free;
    }

    // What holds for every method; RefusedCallsTest looks at the same sentences from every refused call

    private static void noQuestionChangesAnything() {
        sentence = "no question changes anything";
        BayesFactors x = busy();
        long[] first = questions(x);
        for (int again = 0; again < 8; again++) {
            long[] answers = questions(x);
            for (int i = 0; i < answers.length; i++) {
                due("question " + i + " asked again", answers[i], first[i]);
            }
        }
        holdsWhatBusyHas(x);
    }

    private static void refusedCallChangesNothing() {
        sentence = "a refused call changes nothing";
        BayesFactors x = busy();
        long[] first = questions(x);
        due("parents(3, 0)", x.parents(3, 0), -1);
        due("parents(2, 4)", x.parents(2, 4), -2);
        due("parents(2, -1)", x.parents(2, -1), -2);
        due("enter(-1, 0, 0, 5)", x.enter(-1, 0, 0, 5), -1);
        due("enter(2, 4, 0, 5)", x.enter(2, 4, 0, 5), -2);
        due("enter(2, 0, 2, 5)", x.enter(2, 0, 2, 5), -3);
        due("enter(2, 0, 0, 10)", x.enter(2, 0, 0, 10), -4);
        due("sow(3, 5)", x.sow(3, 5), -1);
        due("sow(2, 10)", x.sow(2, 10), -2);
        due("observe(3, 0)", x.observe(3, 0), -1);
        due("observe(0, 3)", x.observe(0, 3), -2);
        due("observe(1, -1)", x.observe(1, -1), -2);
        long[] answers = questions(x);
        for (int i = 0; i < answers.length; i++) {
            due("question " + i + " asked again", answers[i], first[i]);
        }
        holdsWhatBusyHas(x);
    }

    private static void testsAreMadeInTheOrderNamed() {
        sentence = "in every method the tests are made in the order named";
        BayesFactors x = busy();
        due("parents(3, -1)", x.parents(3, -1), -1);
        due("enter(3, 4, 2, 10)", x.enter(3, 4, 2, 10), -1);
        due("enter(2, 4, 2, 10)", x.enter(2, 4, 2, 10), -2);
        due("enter(2, 3, 2, 10)", x.enter(2, 3, 2, 10), -3);
        due("enter(2, 3, 1, 10)", x.enter(2, 3, 1, 10), -4);
        due("sow(3, 10)", x.sow(3, 10), -1);
        due("observe(3, 3)", x.observe(3, 3), -1);
        due("totalWith(3, 2)", x.totalWith(3, 2), -1);
        due("totalPair(0, 2, 3, 0)", x.totalPair(0, 2, 3, 0), -1);
        due("totalPair(3, 0, 0, 2)", x.totalPair(3, 0, 0, 2), -1);
        due("bestWith(3, 2)", x.bestWith(3, 2), -1);
        due("bestWith(1, 2), observed", x.bestWith(1, 2), -2);
        due("bestWith(1, 0), observed to be 1", x.bestWith(1, 0), -3);
        due("separated(3, 3)", x.separated(3, 3), -1);
        due("separated(1, 3), 1 observed", x.separated(1, 3), -1);
        due("separated(1, 1), observed", x.separated(1, 1), -2);
        due("separated(1, 0), 1 observed", x.separated(1, 0), -3);
    }

    private static void goodIsZeroToNMinusOne() {
        sentence = "a variable is good if it is 0 .. n-1";
        for (int n = LEAST_COUNT; n <= GREATEST_COUNT; n++) {
            for (int v = -2; v <= 9; v++) {
                goodOrNot(n, v, 0 <= v && v < n);
            }
            goodOrNot(n, Integer.MIN_VALUE, false);
            goodOrNot(n, Integer.MAX_VALUE, false);
        }
    }

    private static void goodOrNot(int n, int v, boolean good) {
        BayesFactors x = new BayesFactors(n);
        String name = " for " + v + " of " + n;
        int other = v == 0 ? 1 : 0;
        due("parents" + name, x.parents(v, 0), good ? 0 : -1);
        due("enter" + name, x.enter(v, 0, 0, 1), good ? 1 : -1);
        due("observe" + name, x.observe(v, 2), good ? 2 : -1);
        due("parentsOf" + name, x.parentsOf(v), good ? 0 : -1);
        due("totalWith" + name, x.totalWith(v, 0), good ? 1L << n - 1 : -1);
        due("totalPair, first" + name, x.totalPair(v, 0, other, 0), good ? 1L << n - 2 : -1);
        due("totalPair, second" + name, x.totalPair(other, 0, v, 0), good ? 1L << n - 2 : -1);
        due("bestWith" + name, x.bestWith(v, 0), good ? 1 : -1);
        due("separated, first" + name, x.separated(v, other), good ? 1 : -1);
        due("separated, second" + name, x.separated(other, v), good ? 1 : -1);
        due("independent, first" + name, x.independent(v, other), good ? 1 : -1);
        due("independent, second" + name, x.independent(other, v), good ? 1 : -1);
        due("blanket" + name, x.blanket(v), good ? 0 : -1);
        due("sow" + name, x.sow(v, 1), good ? 2 : -1);
    }

    private static void sumsFitIntoALong() {
        sentence = "all sums fit into a long";
        BayesFactors x = new BayesFactors(7);
        for (int v = 0; v < 7; v++) {
            x.enter(v, 0, 0, 9);
            x.enter(v, 0, 1, 9);
        }
        due("total()", x.total(), 612220032L);
        due("totalWith(6, 1)", x.totalWith(6, 1), 306110016L);
        due("totalPair(0, 0, 6, 1)", x.totalPair(0, 0, 6, 1), 153055008L);
        due("independent(0, 6), by products beyond an int", x.independent(0, 6), 1);
        due("independent(6, 6), by products beyond an int", x.independent(6, 6), 0);
    }

    // What the tests share

    private static void due(String call, long got, long want) {
        if (got != want) {
            wrong++;
            if (wrong <= 100) {
                System.out.println(sentence + ": " + call + " answered " + got + ", due is " + want);
            }
        }
    }

    private static boolean has(int set, int member) {
        return (set >> member & 1) == 1;
    }

    private static boolean mayBeParents(int v, int set) {
        int members = 0;
        for (int p = 0; p < 31; p++) {
            if (has(set, p)) {
                members++;
                if (p >= v) {
                    return false;
                }
            }
        }
        return members <= 3;
    }

    private static int someParents(Random random, int v) {
        int set = random.nextInt(1 << v);
        while (!mayBeParents(v, set)) {
            set = random.nextInt(1 << v);
        }
        return set;
    }

    private static int rowsOf(int set) {
        int rows = 1;
        for (int p = 0; p < GREATEST_COUNT; p++) {
            rows *= has(set, p) ? 2 : 1;
        }
        return rows;
    }

    private static int rowOf(int set, int[] values) {
        int row = 0;
        int worth = 1;
        for (int p = 0; p < values.length; p++) {
            if (has(set, p)) {
                row += worth * values[p];
                worth *= 2;
            }
        }
        return row;
    }

    private static int[] valuesOf(int number, int n) {
        int[] values = new int[n];
        int rest = number;
        for (int v = n - 1; v >= 0; v--) {
            int power = (int) Math.pow(2, v);
            values[v] = rest >= power ? 1 : 0;
            rest -= values[v] * power;
        }
        return values;
    }

    /** For every variable 0, 1 or 2 for not observed. */
    private static int[] observationOf(int code, int n) {
        int[] observed = new int[n];
        int rest = code;
        for (int v = 0; v < n; v++) {
            observed[v] = rest % 3;
            rest /= 3;
        }
        return observed;
    }

    /** The assignment with these values has the weight 1, every other one 0. */
    private static BayesFactors onlyWeighs(int[] values) {
        BayesFactors x = new BayesFactors(values.length);
        for (int v = 0; v < values.length; v++) {
            x.enter(v, 0, 1 - values[v], 0);
        }
        return x;
    }

    /** Three variables, 0 and 1 parents of 2, sown with 1, 2 and 3, and 1 observed to be 1. */
    private static BayesFactors busy() {
        BayesFactors x = new BayesFactors(3);
        x.parents(2, 3);
        x.sow(0, 1);
        x.sow(1, 2);
        x.sow(2, 3);
        x.observe(1, 1);
        return x;
    }

    private static void holdsWhatBusyHas(BayesFactors x) {
        int[][] tables = {{1, 6}, {2, 7}, {3, 8, 6, 2, 9, 6, 2, 0}};
        for (int v = 0; v < 3; v++) {
            for (int place = 0; place < tables[v].length; place++) {
                due("entry " + place + " of " + v, x.enter(v, place / 2, place % 2, 1), tables[v][place]);
            }
        }
        due("observed 0", x.observe(0, 2), 2);
        due("observed 1", x.observe(1, 2), 1);
        due("observed 2", x.observe(2, 2), 2);
        due("parents of 2", x.parents(2, 0), 3);
    }

    private static long[] questions(BayesFactors x) {
        return new long[] {
            x.variables(), x.parentsOf(0), x.parentsOf(1), x.parentsOf(2), x.parentsOf(3),
            x.weight(0), x.weight(1), x.weight(2), x.weight(3), x.weight(4), x.weight(5), x.weight(6), x.weight(7),
            x.weight(8), x.total(), x.totalWith(0, 0), x.totalWith(0, 1), x.totalWith(1, 0), x.totalWith(1, 1),
            x.totalWith(2, 0), x.totalWith(2, 1), x.totalWith(2, 2), x.totalPair(0, 0, 2, 0), x.totalPair(2, 1, 0, 1),
            x.totalPair(1, 1, 1, 0), x.totalPair(3, 0, 0, 0), x.best(), x.bestNumber(), x.bestWith(0, 0),
            x.bestWith(1, 0), x.bestWith(1, 1), x.bestWith(2, 3), x.separated(0, 1), x.separated(0, 2),
            x.separated(2, 2), x.separated(0, 3), x.independent(0, 1), x.independent(0, 2), x.independent(2, 2),
            x.independent(3, 0), x.blanket(0), x.blanket(1), x.blanket(2), x.blanket(3)
        };
    }
}
