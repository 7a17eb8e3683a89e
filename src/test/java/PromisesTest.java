/** One method for each promise of the document; every answer that is due was worked out by hand from its words. */
public final class PromisesTest {
    private static final int LOWEST = Integer.MIN_VALUE;
    private static final int HIGHEST = Integer.MAX_VALUE;
    private static String promise = "";
    private static int wrong = 0;

    public static void main(String[] args) {
        promise1NewObject();
        promise2Variables();
        promise3Parents();
        promise3ResetsTheTable();
        promise4Enter();
        promise5Sow();
        promise6Observe();
        promise7ParentsOf();
        promise8Weight();
        promise9Total();
        promise10TotalWith();
        promise11TotalPair();
        promise12Best();
        promise13BestNumber();
        promise14BestWith();
        promise15Separated();
        promise15SeparatedThroughDescendants();
        promise16Independent();
        promise16NeedsLong();
        promise17Blanket();
        refusedCallsChangeNothing();
        questionsChangeNothing();
        objectsAreApart();
        System.out.println(wrong == 0 ? "all answers are as due" : wrong + " answers are not as due");
        if (wrong != 0) {
            System.exit(1);
        }
    }

    private static void due(String call, long got, long want) {
        if (got != want) {
            wrong++;
            System.out.println(promise + ": " + call + " answered " + got + ", due is " + want);
        }
    }

    private static void promise1NewObject() {
        promise = "promise 1";
        int[] asked = {LOWEST, -1, 0, 1, 2, 3, 4, 5, 6, 7, 8, 100, HIGHEST};
        int[] made = {2, 2, 2, 2, 2, 3, 4, 5, 6, 7, 7, 7, 7};
        for (int i = 0; i < asked.length; i++) {
            BayesFactors x = new BayesFactors(asked[i]);
            String name = "new (" + asked[i] + ") ";
            due(name + "variables", x.variables(), made[i]);
            due(name + "total", x.total(), 1L << made[i]);
            due(name + "last weight", x.weight((1 << made[i]) - 1), 1);
            due(name + "weight beyond", x.weight(1 << made[i]), -1);
            due(name + "best", x.best(), 1);
            for (int v = 0; v < made[i]; v++) {
                due(name + "parentsOf " + v, x.parentsOf(v), 0);
                due(name + "observe " + v, x.observe(v, 2), 2);
                due(name + "enter " + v + " 0", x.enter(v, 0, 0, 1), 1);
                due(name + "enter " + v + " 1", x.enter(v, 0, 1, 1), 1);
                due(name + "enter " + v + " row 1", x.enter(v, 1, 0, 1), -2);
            }
            due(name + "parentsOf n", x.parentsOf(made[i]), -1);
        }
    }

    private static void promise2Variables() {
        promise = "promise 2";
        BayesFactors x = new BayesFactors(4);
        due("variables()", x.variables(), 4);
        x.parents(3, 7);
        x.observe(0, 1);
        x.sow(3, 2);
        due("variables() after changes", x.variables(), 4);
    }

    private static void promise3Parents() {
        promise = "promise 3";
        BayesFactors x = new BayesFactors(7);
        due("parents(0, 0)", x.parents(0, 0), 0);
        due("parents(0, 1)", x.parents(0, 1), -2);
        due("parents(1, 1)", x.parents(1, 1), 0);
        due("parents(1, 2) itself", x.parents(1, 2), -2);
        due("parents(1, 3) itself too", x.parents(1, 3), -2);
        due("parents(1, 1) again", x.parents(1, 1), 1);
        due("parents(1, 4) greater", x.parents(1, 4), -2);
        due("parents(6, 56)", x.parents(6, 56), 0);
        due("parents(6, 7)", x.parents(6, 7), 56);
        due("parents(6, 15) four", x.parents(6, 15), -2);
        due("parents(6, 60) four", x.parents(6, 60), -2);
        due("parents(6, 63) six", x.parents(6, 63), -2);
        due("parents(6, 64) itself", x.parents(6, 64), -2);
        due("parents(6, 128)", x.parents(6, 128), -2);
        due("parents(6, 1 << 30)", x.parents(6, 1 << 30), -2);
        due("parents(6, -1)", x.parents(6, -1), -2);
        due("parents(6, lowest)", x.parents(6, LOWEST), -2);
        due("parents(6, lowest + 1)", x.parents(6, LOWEST + 1), -2);
        due("parents(6, highest)", x.parents(6, HIGHEST), -2);
        due("parents(6, 0)", x.parents(6, 0), 7);
        due("parents(6, 32)", x.parents(6, 32), 0);
        due("parents(5, 32) itself", x.parents(5, 32), -2);
        due("parents(7, 0)", x.parents(7, 0), -1);
        due("parents(-1, 0)", x.parents(-1, 0), -1);
        due("parents(-1, -1)", x.parents(-1, -1), -1);
        due("parents(32, 0)", x.parents(32, 0), -1);
        due("parents(lowest, 1)", x.parents(LOWEST, 1), -1);
        due("parents(highest, 1)", x.parents(HIGHEST, 1), -1);
        BayesFactors y = new BayesFactors(3);
        due("parents(3, 1) of 3", y.parents(3, 1), -1);
        due("parents(2, 3) of 3", y.parents(2, 3), 0);
    }

    private static void promise3ResetsTheTable() {
        promise = "promise 3";
        BayesFactors x = new BayesFactors(4);
        x.parents(3, 7);
        x.sow(3, 2);
        x.sow(2, 6);
        x.observe(3, 1);
        due("parents(3, 15) refused", x.parents(3, 15), -2);
        due("row 7 own 1 kept", x.enter(3, 7, 1, 5), 5);
        due("parents(3, 7) again", x.parents(3, 7), 7);
        for (int row = 0; row < 8; row++) {
            due("row " + row + " own 0", x.enter(3, row, 0, 4), 1);
            due("row " + row + " own 1", x.enter(3, row, 1, 8), 1);
        }
        due("other table kept", x.enter(2, 0, 0, 6), 6);
        due("other table kept, own 1", x.enter(2, 0, 1, 1), 1);
        due("parents(3, 0)", x.parents(3, 0), 7);
        due("no parents: row 0", x.enter(3, 0, 1, 3), 1);
        due("no parents: row 1", x.enter(3, 1, 0, 3), -2);
        due("parents(3, 6)", x.parents(3, 6), 0);
        for (int row = 0; row < 4; row++) {
            due("two parents: row " + row + " own 0", x.enter(3, row, 0, 2), 1);
            due("two parents: row " + row + " own 1", x.enter(3, row, 1, 2), 1);
        }
        due("observation kept", x.observe(3, 2), 1);
        due("parents(2, 1) leaves the child", x.parents(2, 1), 0);
        due("table of the child", x.enter(3, 3, 1, 2), 2);
    }

    private static void promise4Enter() {
        promise = "promise 4";
        BayesFactors x = new BayesFactors(5);
        x.parents(4, 11);
        due("enter(4, 7, 1, 9)", x.enter(4, 7, 1, 9), 1);
        due("enter(4, 7, 1, 0)", x.enter(4, 7, 1, 0), 9);
        due("enter(4, 7, 1, 5)", x.enter(4, 7, 1, 5), 0);
        due("enter(4, 7, 0, 3)", x.enter(4, 7, 0, 3), 1);
        due("enter(4, 6, 1, 3)", x.enter(4, 6, 1, 3), 1);
        due("enter(3, 0, 1, 3)", x.enter(3, 0, 1, 3), 1);
        due("enter(4, 0, 1, 3)", x.enter(4, 0, 1, 3), 1);
        due("enter(4, 8, 0, 1)", x.enter(4, 8, 0, 1), -2);
        due("enter(4, -1, 0, 1)", x.enter(4, -1, 0, 1), -2);
        due("enter(4, lowest, 0, 1)", x.enter(4, LOWEST, 0, 1), -2);
        due("enter(4, highest, 0, 1)", x.enter(4, HIGHEST, 0, 1), -2);
        due("enter(3, 1, 0, 1)", x.enter(3, 1, 0, 1), -2);
        due("enter(4, 0, 2, 1)", x.enter(4, 0, 2, 1), -3);
        due("enter(4, 0, -1, 1)", x.enter(4, 0, -1, 1), -3);
        due("enter(4, 0, highest, 1)", x.enter(4, 0, HIGHEST, 1), -3);
        due("enter(4, 0, lowest, 1)", x.enter(4, 0, LOWEST, 1), -3);
        due("enter(4, 0, 0, 10)", x.enter(4, 0, 0, 10), -4);
        due("enter(4, 0, 0, -1)", x.enter(4, 0, 0, -1), -4);
        due("enter(4, 0, 0, lowest)", x.enter(4, 0, 0, LOWEST), -4);
        due("enter(5, 0, 0, 1)", x.enter(5, 0, 0, 1), -1);
        due("enter(-1, 0, 0, 1)", x.enter(-1, 0, 0, 1), -1);
        due("order: all wrong", x.enter(5, 8, 2, 10), -1);
        due("order: good variable", x.enter(4, 8, 2, 10), -2);
        due("order: good row", x.enter(4, 7, 2, 10), -3);
        due("order: good own", x.enter(4, 7, 1, 10), -4);
        due("still there", x.enter(4, 7, 1, 5), 5);
        x.parents(2, 2);
        due("one parent: row 1", x.enter(2, 1, 0, 1), 1);
        due("one parent: row 2", x.enter(2, 2, 0, 1), -2);
        x.parents(2, 3);
        due("two parents: row 3", x.enter(2, 3, 0, 1), 1);
        due("two parents: row 4", x.enter(2, 4, 0, 1), -2);
    }

    private static void promise5Sow() {
        promise = "promise 5";
        BayesFactors x = new BayesFactors(5);
        due("no parents", x.sow(0, 9), 2);
        due("sown 9, own 0", x.enter(0, 0, 0, 9), 9);
        due("sown 9, own 1", x.enter(0, 0, 1, 4), 4);
        x.parents(1, 1);
        due("one parent", x.sow(1, 0), 4);
        x.parents(2, 3);
        due("two parents", x.sow(2, 0), 8);
        x.parents(4, 14);
        due("three parents", x.sow(4, 9), 16);
        int[] own0 = {9, 2, 5, 8, 1, 4, 7, 0};
        int[] own1 = {4, 8, 2, 6, 0, 4, 8, 2};
        for (int row = 0; row < 8; row++) {
            due("row " + row + " own 0", x.enter(4, row, 0, own0[row]), own0[row]);
            due("row " + row + " own 1", x.enter(4, row, 1, own1[row]), own1[row]);
        }
        due("other table untouched", x.enter(3, 0, 0, 1), 1);
        due("sow(4, 0)", x.sow(4, 0), 16);
        due("seed 0, row 7 own 1", x.enter(4, 7, 1, 3), 3);
        due("sow(4, -1)", x.sow(4, -1), -2);
        due("sow(4, 10)", x.sow(4, 10), -2);
        due("sow(4, lowest)", x.sow(4, LOWEST), -2);
        due("sow(4, highest)", x.sow(4, HIGHEST), -2);
        due("sow(5, 1)", x.sow(5, 1), -1);
        due("sow(-1, 1)", x.sow(-1, 1), -1);
        due("sow(5, 10)", x.sow(5, 10), -1);
        due("table kept", x.enter(4, 6, 1, 9), 9);
        BayesFactors y = new BayesFactors(7);
        y.parents(5, 7);
        due("three parents, not the last variable", y.sow(5, 2), 16);
        due("next table untouched, own 0", y.enter(6, 0, 0, 1), 1);
        due("next table untouched, own 1", y.enter(6, 0, 1, 1), 1);
        y.parents(6, 56);
        due("three parents, the last variable", y.sow(6, 2), 16);
    }

    private static void promise6Observe() {
        promise = "promise 6";
        BayesFactors x = new BayesFactors(3);
        due("observe(2, 0)", x.observe(2, 0), 2);
        due("observe(2, 1)", x.observe(2, 1), 0);
        due("observe(2, 1) again", x.observe(2, 1), 1);
        due("observe(2, 0) back", x.observe(2, 0), 1);
        due("total with one observed", x.total(), 4);
        due("other one", x.observe(1, 2), 2);
        due("observe(2, 2)", x.observe(2, 2), 0);
        due("observe(2, 2) again", x.observe(2, 2), 2);
        due("total with none observed", x.total(), 8);
        due("observe(2, 3)", x.observe(2, 3), -2);
        due("observe(2, -1)", x.observe(2, -1), -2);
        due("observe(2, lowest)", x.observe(2, LOWEST), -2);
        due("observe(2, highest)", x.observe(2, HIGHEST), -2);
        due("observe(3, 0)", x.observe(3, 0), -1);
        due("observe(-1, 0)", x.observe(-1, 0), -1);
        due("observe(3, 3)", x.observe(3, 3), -1);
        due("observe(32, 1)", x.observe(32, 1), -1);
        due("still not observed", x.observe(0, 1), 2);
        due("total", x.total(), 4);
    }

    private static void promise7ParentsOf() {
        promise = "promise 7";
        BayesFactors x = new BayesFactors(6);
        x.parents(5, 21);
        x.parents(4, 8);
        due("parentsOf(5)", x.parentsOf(5), 21);
        due("parentsOf(4)", x.parentsOf(4), 8);
        due("parentsOf(3)", x.parentsOf(3), 0);
        x.parents(5, 2);
        due("parentsOf(5) anew", x.parentsOf(5), 2);
        x.parents(5, 64);
        due("parentsOf(5) after a refused call", x.parentsOf(5), 2);
        due("parentsOf(6)", x.parentsOf(6), -1);
        due("parentsOf(-1)", x.parentsOf(-1), -1);
        due("parentsOf(lowest)", x.parentsOf(LOWEST), -1);
        due("parentsOf(highest)", x.parentsOf(HIGHEST), -1);
    }

    private static void promise8Weight() {
        promise = "promise 8";
        BayesFactors x = new BayesFactors(7);
        x.parents(6, 42);
        // The entries of the rows for own value 1 are 2 .. 9, so that a weight tells its row.
        for (int row = 0; row < 8; row++) {
            x.enter(6, row, 1, row + 2);
        }
        due("parents 1, 3, 5 all 0", x.weight(64), 2);
        due("parent 1", x.weight(64 + 2), 3);
        due("parent 3", x.weight(64 + 8), 4);
        due("parents 1 and 3", x.weight(64 + 2 + 8), 5);
        due("parent 5", x.weight(64 + 32), 6);
        due("parents 1 and 5", x.weight(64 + 2 + 32), 7);
        due("parents 3 and 5", x.weight(64 + 8 + 32), 8);
        due("all parents", x.weight(64 + 2 + 8 + 32), 9);
        due("the others don't matter", x.weight(127), 9);
        due("own value 0", x.weight(63), 1);
        x.enter(0, 0, 1, 7);
        x.enter(1, 0, 0, 5);
        due("product", x.weight(64 + 1), 2 * 7 * 5);
        due("product, other values", x.weight(64 + 2), 3);
        x.observe(6, 0);
        due("not agreeing", x.weight(64 + 1), 70);
        x.enter(0, 0, 1, 0);
        due("an entry 0", x.weight(65), 0);
        due("weight(128)", x.weight(128), -1);
        due("weight(-1)", x.weight(-1), -1);
        due("weight(lowest)", x.weight(LOWEST), -1);
        due("weight(highest)", x.weight(HIGHEST), -1);
        BayesFactors y = filled(7, 9);
        due("greatest weight there is", y.weight(127), 4782969);
        BayesFactors z = new BayesFactors(3);
        due("weight(7) of 3", z.weight(7), 1);
        due("weight(8) of 3", z.weight(8), -1);
        due("weight(0)", z.weight(0), 1);
    }

    private static void promise9Total() {
        promise = "promise 9";
        due("greatest total there is", filled(7, 9).total(), 612220032L);
        due("all entries 0", filled(7, 0).total(), 0);
        BayesFactors x = small();
        due("total()", x.total(), 105);
        x.observe(1, 1);
        due("1 observed to be 1", x.total(), 61);
        x.observe(1, 0);
        due("1 observed to be 0", x.total(), 44);
        x.observe(0, 1);
        due("both observed", x.total(), 20);
        x.observe(1, 2);
        due("0 observed to be 1", x.total(), 65);
    }

    private static void promise10TotalWith() {
        promise = "promise 10";
        BayesFactors x = small();
        due("totalWith(0, 0)", x.totalWith(0, 0), 40);
        due("totalWith(0, 1)", x.totalWith(0, 1), 65);
        due("totalWith(1, 0)", x.totalWith(1, 0), 44);
        due("totalWith(1, 1)", x.totalWith(1, 1), 61);
        x.observe(0, 1);
        due("other observed", x.totalWith(1, 0), 20);
        due("observed with this value", x.totalWith(0, 1), 65);
        due("observed with the other value", x.totalWith(0, 0), 0);
        x.observe(0, 0);
        due("observed 0 asked 1", x.totalWith(0, 1), 0);
        due("totalWith(0, 2)", x.totalWith(0, 2), -2);
        due("totalWith(0, -1)", x.totalWith(0, -1), -2);
        due("totalWith(0, highest)", x.totalWith(0, HIGHEST), -2);
        due("totalWith(2, 0)", x.totalWith(2, 0), -1);
        due("totalWith(-1, 0)", x.totalWith(-1, 0), -1);
        due("totalWith(2, 2)", x.totalWith(2, 2), -1);
    }

    private static void promise11TotalPair() {
        promise = "promise 11";
        BayesFactors x = small();
        due("0, 0, 1, 0", x.totalPair(0, 0, 1, 0), 24);
        due("0, 1, 1, 0", x.totalPair(0, 1, 1, 0), 20);
        due("0, 0, 1, 1", x.totalPair(0, 0, 1, 1), 16);
        due("0, 1, 1, 1", x.totalPair(0, 1, 1, 1), 45);
        due("1, 0, 0, 1", x.totalPair(1, 0, 0, 1), 20);
        due("same, 0, 0", x.totalPair(0, 0, 0, 0), 40);
        due("same, 1, 1", x.totalPair(0, 1, 0, 1), 65);
        due("same, 0, 1", x.totalPair(0, 0, 0, 1), 0);
        due("same, 1, 0", x.totalPair(0, 1, 0, 0), 0);
        due("u not good", x.totalPair(2, 0, 0, 0), -1);
        due("v not good", x.totalPair(0, 0, 2, 0), -1);
        due("u negative", x.totalPair(-1, 0, 0, 0), -1);
        due("v negative", x.totalPair(0, 0, -1, 0), -1);
        due("v not good, a wrong", x.totalPair(0, 2, 2, 0), -1);
        due("u not good, b wrong", x.totalPair(2, 0, 0, 2), -1);
        due("a 2", x.totalPair(0, 2, 1, 0), -2);
        due("b 2", x.totalPair(0, 0, 1, 2), -2);
        due("a -1", x.totalPair(0, -1, 1, 0), -2);
        due("b -1", x.totalPair(0, 0, 1, -1), -2);
        due("same, both 2", x.totalPair(0, 2, 0, 2), -2);
        due("same, 0 and 2", x.totalPair(0, 0, 0, 2), -2);
        x.observe(1, 1);
        due("v observed, agreeing", x.totalPair(0, 0, 1, 1), 16);
        due("v observed, not agreeing", x.totalPair(0, 0, 1, 0), 0);
        due("same, other observed", x.totalPair(0, 1, 0, 1), 45);
        due("same, observed", x.totalPair(1, 1, 1, 1), 61);
        due("same, observed otherwise", x.totalPair(1, 0, 1, 0), 0);
    }

    private static void promise12Best() {
        promise = "promise 12";
        BayesFactors x = small();
        due("best()", x.best(), 45);
        x.observe(0, 0);
        due("0 observed to be 0", x.best(), 24);
        x.observe(1, 1);
        due("both observed", x.best(), 16);
        due("all entries 9", filled(7, 9).best(), 4782969);
        due("all entries 0", filled(7, 0).best(), 0);
        x.enter(0, 0, 0, 0);
        due("agreeing ones have weight 0", x.best(), 0);
    }

    private static void promise13BestNumber() {
        promise = "promise 13";
        BayesFactors x = small();
        due("bestNumber()", x.bestNumber(), 3);
        x.observe(0, 0);
        due("0 observed to be 0", x.bestNumber(), 0);
        x.observe(1, 1);
        due("both observed", x.bestNumber(), 2);
        BayesFactors y = new BayesFactors(4);
        due("all alike", y.bestNumber(), 0);
        y.observe(2, 1);
        due("all alike, 2 observed to be 1", y.bestNumber(), 4);
        y.enter(3, 0, 1, 5);
        due("3 better with 1", y.bestNumber(), 12);
        y.enter(0, 0, 1, 5);
        y.enter(0, 0, 0, 5);
        due("least of two", y.bestNumber(), 12);
        y.observe(2, 0);
        due("2 observed to be 0", y.bestNumber(), 8);
        BayesFactors z = filled(7, 0);
        due("all weights 0", z.bestNumber(), 0);
        z.observe(6, 1);
        z.observe(1, 1);
        due("all weights 0, observed", z.bestNumber(), 66);
        BayesFactors w = new BayesFactors(2);
        w.enter(0, 0, 0, 0);
        w.observe(0, 1);
        w.enter(0, 0, 1, 3);
        w.enter(1, 0, 0, 2);
        w.enter(1, 0, 1, 4);
        due("last number is best", w.bestNumber(), 3);
        w.observe(0, 0);
        due("weight 0 of the other ones", w.bestNumber(), 0);
    }

    private static void promise14BestWith() {
        promise = "promise 14";
        BayesFactors x = small();
        due("bestWith(0, 0)", x.bestWith(0, 0), 24);
        due("bestWith(0, 1)", x.bestWith(0, 1), 45);
        due("bestWith(1, 0)", x.bestWith(1, 0), 24);
        due("bestWith(1, 1)", x.bestWith(1, 1), 45);
        x.observe(0, 1);
        due("other observed", x.bestWith(1, 0), 20);
        due("observed with this value", x.bestWith(0, 1), 45);
        due("observed with the other value", x.bestWith(0, 0), -3);
        due("observed, value wrong", x.bestWith(0, 2), -2);
        due("observed, value -1", x.bestWith(0, -1), -2);
        x.observe(0, 0);
        due("observed 0, asked 1", x.bestWith(0, 1), -3);
        due("observed 0, asked 0", x.bestWith(0, 0), 24);
        x.observe(0, 2);
        due("not observed any more", x.bestWith(0, 1), 45);
        due("bestWith(0, 2) not observed", x.bestWith(0, 2), -2);
        due("bestWith(0, -1) not observed", x.bestWith(0, -1), -2);
        due("bestWith(0, lowest)", x.bestWith(0, LOWEST), -2);
        due("bestWith(2, 0)", x.bestWith(2, 0), -1);
        due("bestWith(-1, 0)", x.bestWith(-1, 0), -1);
        due("bestWith(2, 2)", x.bestWith(2, 2), -1);
        due("all weights 0", filled(3, 0).bestWith(1, 1), 0);
    }

    private static void promise15Separated() {
        promise = "promise 15";
        // The chain 0 - 1 - 2, and 3 apart.
        BayesFactors x = new BayesFactors(4);
        x.parents(1, 1);
        x.parents(2, 2);
        due("parent and child", x.separated(0, 1), 0);
        due("along a chain", x.separated(0, 2), 0);
        due("against a chain", x.separated(2, 0), 0);
        due("apart", x.separated(0, 3), 1);
        x.observe(1, 0);
        due("chain cut", x.separated(0, 2), 1);
        due("chain cut, turned", x.separated(2, 0), 1);
        due("u observed", x.separated(1, 2), -3);
        due("v observed", x.separated(0, 1), -3);
        due("same and observed", x.separated(1, 1), -2);
        due("same", x.separated(0, 0), -2);
        due("v not good", x.separated(0, 4), -1);
        due("u not good", x.separated(4, 0), -1);
        due("same not good", x.separated(4, 4), -1);
        due("u negative", x.separated(-1, 0), -1);
        due("v negative", x.separated(0, -1), -1);
        due("u observed, v not good", x.separated(1, 4), -1);
        // A common parent: 0 of 1 and 2.
        BayesFactors y = new BayesFactors(3);
        y.parents(1, 1);
        y.parents(2, 1);
        due("common parent", y.separated(1, 2), 0);
        y.observe(0, 1);
        due("common parent observed", y.separated(1, 2), 1);
        y.observe(0, 2);
        due("not observed any more", y.separated(1, 2), 0);
        // The tables don't matter: all entries are 1 here.
        due("independent by its table", y.independent(1, 2), 1);
        // The longest way there is: 0 to 6 through every variable, with and against the numbers.
        BayesFactors z = new BayesFactors(7);
        for (int v = 1; v < 7; v++) {
            z.parents(v, 1 << v - 1);
        }
        due("long chain", z.separated(0, 6), 0);
        due("long chain, turned", z.separated(6, 0), 0);
        z.observe(3, 1);
        due("long chain cut", z.separated(0, 6), 1);
        due("one side of the cut", z.separated(4, 6), 0);
    }

    private static void promise15SeparatedThroughDescendants() {
        promise = "promise 15";
        // 2 has the parents 0 and 1, and 3 the parent 2; 4 has the parent 3.
        BayesFactors x = new BayesFactors(5);
        x.parents(2, 3);
        x.parents(3, 4);
        x.parents(4, 8);
        due("common child not observed", x.separated(0, 1), 1);
        x.observe(2, 1);
        due("common child observed", x.separated(0, 1), 0);
        due("past it", x.separated(0, 3), 1);
        x.observe(2, 2);
        x.observe(4, 0);
        due("far descendant observed", x.separated(0, 1), 0);
        due("to the middle", x.separated(0, 3), 0);
        x.observe(2, 0);
        due("child and descendant observed", x.separated(0, 1), 0);
        due("cut though the descendant is observed", x.separated(1, 3), 1);
        // A zigzag: 0 and 1 are parents of 3, 1 and 2 are parents of 4.
        BayesFactors y = new BayesFactors(5);
        y.parents(3, 3);
        y.parents(4, 6);
        due("zigzag", y.separated(0, 2), 1);
        y.observe(3, 1);
        due("one child observed", y.separated(0, 2), 1);
        y.observe(4, 1);
        due("both children observed", y.separated(0, 2), 0);
        y.observe(1, 1);
        due("and the parent between", y.separated(0, 2), 1);
    }

    private static void promise16Independent() {
        promise = "promise 16";
        BayesFactors x = small();
        due("dependent", x.independent(0, 1), 0);
        due("dependent, turned", x.independent(1, 0), 0);
        due("same", x.independent(0, 0), 0);
        x.observe(1, 1);
        due("v observed", x.independent(0, 1), 1);
        due("u observed", x.independent(1, 0), 1);
        due("same, observed", x.independent(1, 1), 1);
        due("same, other observed", x.independent(0, 0), 0);
        due("v not good", x.independent(0, 2), -1);
        due("u not good", x.independent(2, 0), -1);
        due("u negative", x.independent(-1, 0), -1);
        due("v negative", x.independent(0, -1), -1);
        due("total 0", filled(3, 0).independent(1, 1), 1);
        // Rows in proportion: 1 has the parent 0, and its table tells nothing of it.
        BayesFactors y = new BayesFactors(2);
        y.parents(1, 1);
        y.enter(1, 0, 0, 2);
        y.enter(1, 0, 1, 3);
        y.enter(1, 1, 0, 4);
        y.enter(1, 1, 1, 6);
        due("rows in proportion", y.independent(0, 1), 1);
        due("but not separated", y.separated(0, 1), 0);
        y.enter(1, 1, 1, 7);
        due("a little out of proportion", y.independent(0, 1), 0);
        // A variable that can have one value only.
        BayesFactors z = new BayesFactors(2);
        z.enter(0, 0, 1, 0);
        due("one value only", z.independent(0, 0), 1);
    }

    private static void promise16NeedsLong() {
        promise = "promise 16";
        // Every product is a multiple of 2^32 here, so in ints all of them would be alike.
        BayesFactors x = filled(7, 8);
        due("independent", x.independent(0, 1), 1);
        x.parents(1, 1);
        x.enter(1, 0, 0, 8);
        x.enter(1, 0, 1, 0);
        x.enter(1, 1, 0, 0);
        x.enter(1, 1, 1, 8);
        due("dependent", x.independent(0, 1), 0);
        due("same", x.independent(2, 2), 0);
    }

    private static void promise17Blanket() {
        promise = "promise 17";
        BayesFactors x = new BayesFactors(7);
        due("alone", x.blanket(3), 0);
        // 0 -> 2 <- 1, 2 -> 4 <- 3, 4 -> 5, and 6 apart.
        x.parents(2, 3);
        x.parents(4, 12);
        x.parents(5, 16);
        due("blanket(0): child 2, its parent 1", x.blanket(0), 2 + 4);
        due("blanket(1)", x.blanket(1), 1 + 4);
        due("blanket(2): 0, 1, 4, 3", x.blanket(2), 1 + 2 + 8 + 16);
        due("blanket(3): 4, 2", x.blanket(3), 4 + 16);
        due("blanket(4): 2, 3, 5", x.blanket(4), 4 + 8 + 32);
        due("blanket(5): 4", x.blanket(5), 16);
        due("blanket(6)", x.blanket(6), 0);
        x.observe(2, 1);
        x.observe(4, 0);
        due("observed ones count too", x.blanket(2), 1 + 2 + 8 + 16);
        x.parents(6, 41);
        due("blanket(0) with a second child", x.blanket(0), 2 + 4 + 8 + 32 + 64);
        x.parents(2, 0);
        due("blanket(0) without the first child", x.blanket(0), 8 + 32 + 64);
        x.parents(5, 12);
        due("blanket(2): 3 is a parent of both children", x.blanket(2), 8 + 16 + 32);
        due("blanket(7)", x.blanket(7), -1);
        due("blanket(-1)", x.blanket(-1), -1);
        due("blanket(lowest)", x.blanket(LOWEST), -1);
        due("blanket(highest)", x.blanket(HIGHEST), -1);
        BayesFactors y = new BayesFactors(3);
        due("blanket(3) of 3", y.blanket(3), -1);
        due("blanket(2) of 3", y.blanket(2), 0);
    }

    private static void refusedCallsChangeNothing() {
        promise = "refused calls";
        BayesFactors x = small();
        x.observe(1, 1);
        x.parents(1, 2);
        x.parents(1, -1);
        x.parents(2, 1);
        x.enter(1, 2, 0, 5);
        x.enter(1, 0, 2, 5);
        x.enter(0, 0, 3, 5);
        x.enter(0, 0, -1, 5);
        x.enter(1, 0, 0, 10);
        x.sow(1, 10);
        x.sow(2, 1);
        x.observe(1, 3);
        x.observe(1, -1);
        x.observe(2, 0);
        x.observe(33, 0);
        due("parentsOf(1)", x.parentsOf(1), 1);
        due("total()", x.total(), 61);
        due("observe(1, 2)", x.observe(1, 2), 1);
        due("weight(0)", x.weight(0), 24);
        due("weight(1)", x.weight(1), 20);
        due("weight(2)", x.weight(2), 16);
        due("weight(3)", x.weight(3), 45);
    }

    private static void questionsChangeNothing() {
        promise = "questions";
        BayesFactors x = small();
        for (int round = 0; round < 3; round++) {
            due("total()", x.total(), 105);
            due("totalWith(0, 1)", x.totalWith(0, 1), 65);
            due("totalPair(0, 1, 1, 0)", x.totalPair(0, 1, 1, 0), 20);
            due("best()", x.best(), 45);
            due("bestNumber()", x.bestNumber(), 3);
            due("bestWith(0, 0)", x.bestWith(0, 0), 24);
            due("separated(0, 1)", x.separated(0, 1), 0);
            due("independent(0, 1)", x.independent(0, 1), 0);
            due("blanket(0)", x.blanket(0), 2);
            due("parentsOf(1)", x.parentsOf(1), 1);
            due("weight(2)", x.weight(2), 16);
            due("variables()", x.variables(), 2);
        }
        due("observe(0, 2)", x.observe(0, 2), 2);
        due("observe(1, 2)", x.observe(1, 2), 2);
    }

    private static void objectsAreApart() {
        promise = "two objects";
        BayesFactors x = small();
        BayesFactors y = new BayesFactors(3);
        y.observe(0, 1);
        y.sow(1, 3);
        due("first", x.total(), 105);
        due("first observed", x.observe(0, 2), 2);
        due("second parents", y.parentsOf(1), 0);
        due("second", y.total(), 22);
    }

    /** Two variables, 0 a parent of 1; the weights of 0, 1, 2 and 3 are 24, 20, 16 and 45, together 105. */
    private static BayesFactors small() {
        BayesFactors x = new BayesFactors(2);
        x.parents(1, 1);
        x.enter(0, 0, 0, 8);
        x.enter(0, 0, 1, 5);
        x.enter(1, 0, 0, 3);
        x.enter(1, 0, 1, 2);
        x.enter(1, 1, 0, 4);
        x.enter(1, 1, 1, 9);
        return x;
    }

    private static BayesFactors filled(int n, int entry) {
        BayesFactors x = new BayesFactors(n);
        for (int v = 0; v < n; v++) {
            x.enter(v, 0, 0, entry);
            x.enter(v, 0, 1, entry);
        }
        return x;
    }
}
