/**
 * Each sentence of the document that names an edge and refuses nothing there has a test of its own here:
 * clamped sizes, tables that become full of ones, wrap-around by modulo, nothing observed and all observed,
 * weights that are all 0, the greatest that entries allow, ties, and the last call of an object.
 */
public final class EdgesTest {
    private interface Call {
        long on(BayesFactors x);
    }

    private static final int LEAST = Integer.MIN_VALUE;
    private static final int GREATEST = Integer.MAX_VALUE;
    private static final int CALLS_OF_AN_OBJECT = 512;

    private static String sentence = "";
    private static int wrong = 0;

    public static void main(String[] args) {
        belowTwoBecomesTwo();
        aboveSevenBecomesSeven();
        twoToSevenStays();
        nothingAtFirst();
        parentsAnswersTheSetBefore();
        parentsMakesEveryEntryOne();
        parentsLeavesOtherTables();
        enterAnswersTheEntryBefore();
        enterSetsOneEntry();
        sowGoesAroundAtTen();
        sowCountsTheEntries();
        sowSetsOneTable();
        observeAnswersWhatItWasBefore();
        observeNotAnyMore();
        weightAgreeingOrNot();
        weightOfEveryRow();
        noneObserved();
        allObserved();
        allWeightsZero();
        oneWeightNotZero();
        greatestThatEntriesAllow();
        totalWithOfAnObserved();
        totalPairOfTheSame();
        totalPairOfObserved();
        bestNumberIsTheLeast();
        bestNumberAgrees();
        separatedWithNoWay();
        separatedOnEveryWay();
        separatedByAncestors();
        separatedWithoutACommonChild();
        independentOfTheSame();
        independentOfObserved();
        independentForAllValues();
        independentAtTheGreatest();
        independentBeyondAnInt();
        independentByADifferenceOfOne();
        blanketEmpty();
        blanketFull();
        blanketWithoutItself();
        theLastCallIsAnswered();
        System.out.println(wrong == 0 ? "all answers are as due" : wrong + " answers are not as due");
        if (wrong != 0) {
            System.exit(1);
        }
    }

    // Promises 1 and 2

    private static void belowTwoBecomesTwo() {
        sentence = "promise 1: below 2 becomes 2";
        for (int asked : new int[] {1, 0, -1, -2, -7, LEAST + 1, LEAST}) {
            hasSize("new (" + asked + ")", new BayesFactors(asked), 2);
        }
    }

    private static void aboveSevenBecomesSeven() {
        sentence = "promise 1: above 7 becomes 7";
        for (int asked : new int[] {8, 9, 16, 31, 32, 34, GREATEST - 1, GREATEST}) {
            hasSize("new (" + asked + ")", new BayesFactors(asked), 7);
        }
    }

    private static void twoToSevenStays() {
        sentence = "promises 1 and 2: variables is n";
        for (int n = 2; n <= 7; n++) {
            hasSize("new (" + n + ")", new BayesFactors(n), n);
        }
    }

    private static void hasSize(String name, BayesFactors x, int n) {
        due(name + " variables()", x.variables(), n);
        due(name + " parentsOf(n - 1)", x.parentsOf(n - 1), 0);
        due(name + " parentsOf(n)", x.parentsOf(n), -1);
        due(name + " weight(2^n - 1)", x.weight((1 << n) - 1), 1);
        due(name + " weight(2^n)", x.weight(1 << n), -1);
        due(name + " total()", x.total(), 1L << n);
        due(name + " parents(n - 1, 1)", x.parents(n - 1, 1), 0);
        due(name + " observe(n - 1, 1)", x.observe(n - 1, 1), 2);
        due(name + " observe(n, 1)", x.observe(n, 1), -1);
        due(name + " total(), half of it", x.total(), 1L << n - 1);
        due(name + " bestNumber()", x.bestNumber(), 1L << n - 1);
        due(name + " variables() at the end", x.variables(), n);
    }

    private static void nothingAtFirst() {
        sentence = "terms: no parents, all entries 1 and nothing observed at first";
        for (int n = 2; n <= 7; n++) {
            BayesFactors x = new BayesFactors(n);
            for (int v = 0; v < n; v++) {
                due("parentsOf(" + v + ") of " + n, x.parentsOf(v), 0);
                due("entry for 0 of " + v, x.enter(v, 0, 0, 0), 1);
                due("entry for 1 of " + v, x.enter(v, 0, 1, 0), 1);
                due("row 1 of " + v, x.enter(v, 1, 0, 0), -2);
                due("observe(" + v + ", 0)", x.observe(v, 0), 2);
            }
        }
    }

    // Promise 3

    private static void parentsAnswersTheSetBefore() {
        sentence = "promise 3: answers the set before";
        int[] sets = {7, 7, 0, 0, 56, 32, 1, 21, 42, 48, 0};
        BayesFactors x = new BayesFactors(7);
        int before = 0;
        for (int set : sets) {
            due("parents(6, " + set + ")", x.parents(6, set), before);
            due("parents(6, 64)", x.parents(6, 64), -2);
            due("parentsOf(6)", x.parentsOf(6), set);
            due("parentsOf(5)", x.parentsOf(5), 0);
            before = set;
        }
    }

    private static void parentsMakesEveryEntryOne() {
        sentence = "promise 3: all entries of its table become 1";
        int[] sets = {0, 4, 5, 7, 56};
        for (int before : sets) {
            for (int after : sets) {
                for (int entry : new int[] {0, 9}) {
                    String name = "parents(6, " + after + ") after " + before + " full of " + entry;
                    BayesFactors x = new BayesFactors(7);
                    x.parents(6, before);
                    fill(x, 6, entry);
                    due(name, x.parents(6, after), before);
                    due(name + ", total()", x.total(), 128);
                    isFullOf(name, x, 6, 1);
                }
            }
        }
        // Rows that the table has not for a while are not kept for later.
        BayesFactors y = new BayesFactors(4);
        y.parents(3, 7);
        fill(y, 3, 8);
        y.parents(3, 0);
        fill(y, 3, 6);
        y.parents(3, 7);
        isFullOf("7, then 0, then 7", y, 3, 1);
    }

    private static void parentsLeavesOtherTables() {
        sentence = "promise 3: of its table, and of no other";
        for (int v = 0; v < 7; v++) {
            BayesFactors x = new BayesFactors(7);
            for (int w = 0; w < 7; w++) {
                x.parents(w, (1 << w) - 1 & 7);
                fill(x, w, w + 2);
                x.observe(w, w % 3);
            }
            x.parents(v, 0);
            for (int w = 0; w < 7; w++) {
                String name = "parents(" + v + ", 0), table of " + w;
                due(name + ", parents", x.parentsOf(w), w == v ? 0 : (1 << w) - 1 & 7);
                isFullOf(name, x, w, w == v ? 1 : w + 2);
                due(name + ", observed", x.observe(w, 2), w % 3);
            }
        }
    }

    // Promise 4

    private static void enterAnswersTheEntryBefore() {
        sentence = "promise 4: answers the entry before";
        BayesFactors x = new BayesFactors(2);
        int before = 1;
        for (int entry : new int[] {0, 0, 9, 9, 1, 8, 2, 7, 3, 6, 4, 5, 0, 9}) {
            due("enter(1, 0, 1, " + entry + ")", x.enter(1, 0, 1, entry), before);
            due("weight(2)", x.weight(2), entry);
            before = entry;
        }
    }

    private static void enterSetsOneEntry() {
        sentence = "promise 4: sets an entry, and no other";
        for (int v = 0; v < 4; v++) {
            int rows = 1 << v;
            for (int place = 0; place < 2 * rows; place++) {
                BayesFactors x = everyLesserOneIsAParent();
                due("entry " + place + " of " + v, x.enter(v, place / 2, place % 2, 7), 1);
                for (int w = 0; w < 4; w++) {
                    for (int other = 0; other < 2 << w; other++) {
                        int want = w == v && other == place ? 7 : 1;
                        due("entry " + other + " of " + w, x.enter(w, other / 2, other % 2, want), want);
                    }
                }
            }
        }
    }

    // Promise 5

    private static void sowGoesAroundAtTen() {
        sentence = "promise 5: (seed + 3 * r + 5 * b + r * b) modulo 10";
        // For each seed the entries of the rows 0 .. 7, first for the own value 0, then for 1.
        String[] forZero = {"03692581", "14703692", "25814703", "36925814", "47036925", "58147036", "69258147",
            "70369258", "81470369", "92581470"};
        String[] forOne = {"59371593", "60482604", "71593715", "82604826", "93715937", "04826048", "15937159",
            "26048260", "37159371", "48260482"};
        for (int v = 0; v < 7; v++) {
            int set = (1 << v) - 1 & 7;
            int rows = 1 << Integer.bitCount(set);
            for (int seed = 0; seed <= 9; seed++) {
                BayesFactors x = new BayesFactors(7);
                x.parents(v, set);
                x.sow(v, seed);
                for (int row = 0; row < rows; row++) {
                    String name = "sow(" + v + ", " + seed + ") row " + row;
                    due(name + " own 0", x.enter(v, row, 0, 1), forZero[seed].charAt(row) - '0');
                    due(name + " own 1", x.enter(v, row, 1, 1), forOne[seed].charAt(row) - '0');
                }
            }
        }
    }

    private static void sowCountsTheEntries() {
        sentence = "promise 5: answers how many entries the table has";
        int[] sets = {0, 32, 33, 35, 56, 48, 16, 0};
        int[] entries = {2, 4, 8, 16, 16, 8, 4, 2};
        BayesFactors x = new BayesFactors(7);
        for (int i = 0; i < sets.length; i++) {
            x.parents(6, sets[i]);
            due("sow(6, 0) with " + sets[i], x.sow(6, 0), entries[i]);
            due("sow(6, 9) with " + sets[i], x.sow(6, 9), entries[i]);
            due("sow(5, 9)", x.sow(5, 9), 2);
        }
    }

    private static void sowSetsOneTable() {
        sentence = "promise 5: sets all entries of a table, and of no other";
        for (int v = 0; v < 4; v++) {
            BayesFactors x = everyLesserOneIsAParent();
            fill(x, v, 8);
            x.sow(v, 6);
            due("first entry", x.enter(v, 0, 0, 1), 6);
            due("second entry", x.enter(v, 0, 1, 1), 1);
            for (int w = 0; w < 4; w++) {
                due("parentsOf(" + w + ")", x.parentsOf(w), (1 << w) - 1);
                if (w != v) {
                    isFullOf("sow(" + v + ", 6), table of " + w, x, w, 1);
                }
            }
        }
    }

    // Promise 6

    private static void observeAnswersWhatItWasBefore() {
        sentence = "promise 6: answers what it was before (2 for not observed)";
        for (int v = 0; v < 7; v++) {
            for (int first = 0; first <= 2; first++) {
                for (int second = 0; second <= 2; second++) {
                    BayesFactors x = new BayesFactors(7);
                    String name = "observe(" + v + ", " + first + ") then " + second;
                    due(name + ", first", x.observe(v, first), 2);
                    due(name + ", second", x.observe(v, second), first);
                    due(name + ", total", x.total(), second == 2 ? 128 : 64);
                    due(name + ", bestNumber", x.bestNumber(), second == 1 ? 1 << v : 0);
                    for (int w = 0; w < 7; w++) {
                        due(name + ", of " + w, x.observe(w, 2), w == v ? second : 2);
                    }
                }
            }
        }
    }

    private static void observeNotAnyMore() {
        sentence = "promise 6: or not any more (2)";
        for (int v = 0; v < 7; v++) {
            BayesFactors x = new BayesFactors(7);
            for (int w = 0; w < 7; w++) {
                x.observe(w, 1);
            }
            due("all observed", x.total(), 1);
            due("observe(" + v + ", 2)", x.observe(v, 2), 1);
            due("all but one", x.total(), 2);
            due("its 0", x.totalWith(v, 0), 1);
            due("its 1", x.totalWith(v, 1), 1);
            due("bestNumber()", x.bestNumber(), 127 - (1 << v));
            due("bestWith(" + v + ", 0)", x.bestWith(v, 0), 1);
            due("observe(" + v + ", 2) again", x.observe(v, 2), 2);
        }
    }

    // Promise 8

    private static void weightAgreeingOrNot() {
        sentence = "promise 8: agreeing or not";
        int[] want = {6, 20, 21, 35};
        for (int first = 0; first <= 2; first++) {
            for (int second = 0; second <= 2; second++) {
                BayesFactors x = two();
                x.observe(0, first);
                x.observe(1, second);
                for (int number = 0; number < 4; number++) {
                    due("weight(" + number + "), observed " + first + ", " + second, x.weight(number), want[number]);
                }
            }
        }
    }

    private static void weightOfEveryRow() {
        sentence = "terms: bit k of the row is the value of the k-th parent, in rising order";
        int[][] threeOfSix = {{0, 1, 2}, {0, 1, 5}, {0, 4, 5}, {3, 4, 5}, {1, 3, 4}, {0, 2, 4}};
        for (int[] p : threeOfSix) {
            BayesFactors x = new BayesFactors(7);
            x.parents(6, (1 << p[0]) + (1 << p[1]) + (1 << p[2]));
            for (int row = 0; row < 8; row++) {
                x.enter(6, row, 1, row + 2);
                x.enter(6, row, 0, 9 - row);
            }
            for (int number = 0; number < 128; number++) {
                int row = (number >> p[0]) % 2 + 2 * ((number >> p[1]) % 2) + 4 * ((number >> p[2]) % 2);
                due("weight(" + number + ")", x.weight(number), number >= 64 ? row + 2 : 9 - row);
            }
        }
    }

    // Promises 9 to 14: what is observed, and the least and the greatest weights

    private static void noneObserved() {
        sentence = "promises 9 and 12: none observed";
        due("total() of two", two().total(), 82);
        due("best() of two", two().best(), 35);
        due("bestNumber() of two", two().bestNumber(), 3);
        for (int n = 2; n <= 7; n++) {
            due("total() of " + n, new BayesFactors(n).total(), 1L << n);
            due("best() of " + n, new BayesFactors(n).best(), 1);
            due("bestNumber() of " + n, new BayesFactors(n).bestNumber(), 0);
        }
    }

    private static void allObserved() {
        sentence = "promises 9 and 12: all observed";
        for (int n = 2; n <= 7; n++) {
            for (int number = 0; number < 1 << n; number++) {
                BayesFactors x = new BayesFactors(n);
                int weight = 1;
                for (int v = 0; v < n; v++) {
                    int value = number >> v & 1;
                    x.enter(v, 0, 0, v + 1);
                    x.enter(v, 0, 1, 9 - v);
                    x.observe(v, value);
                    weight *= value == 0 ? v + 1 : 9 - v;
                }
                String name = number + " of " + n + ": ";
                due(name + "total()", x.total(), weight);
                due(name + "best()", x.best(), weight);
                due(name + "bestNumber()", x.bestNumber(), number);
                for (int v = 0; v < n; v++) {
                    int value = number >> v & 1;
                    due(name + "totalWith its own of " + v, x.totalWith(v, value), weight);
                    due(name + "totalWith the other of " + v, x.totalWith(v, 1 - value), 0);
                    due(name + "bestWith its own of " + v, x.bestWith(v, value), weight);
                    due(name + "bestWith the other of " + v, x.bestWith(v, 1 - value), -3);
                    due(name + "independent of 0 and " + v, x.independent(0, v), 1);
                }
            }
        }
    }

    private static void allWeightsZero() {
        sentence = "promises 9 to 14: weights that are all 0";
        for (int n = 2; n <= 7; n++) {
            for (int v = 0; v < n; v++) {
                BayesFactors x = new BayesFactors(n);
                fill(x, v, 0);
                String name = "table of " + v + " of " + n + " is 0: ";
                due(name + "total()", x.total(), 0);
                due(name + "best()", x.best(), 0);
                due(name + "bestNumber()", x.bestNumber(), 0);
                due(name + "totalWith(0, 1)", x.totalWith(0, 1), 0);
                due(name + "totalPair(0, 1, 1, 0)", x.totalPair(0, 1, 1, 0), 0);
                due(name + "bestWith(n - 1, 1)", x.bestWith(n - 1, 1), 0);
                due(name + "independent(0, 1)", x.independent(0, 1), 1);
                due(name + "independent(0, 0)", x.independent(0, 0), 1);
                x.observe(n - 1, 1);
                due(name + "total(), observed", x.total(), 0);
                due(name + "best(), observed", x.best(), 0);
                due(name + "bestNumber(), observed", x.bestNumber(), 1 << n - 1);
                due(name + "bestWith(n - 1, 0), observed", x.bestWith(n - 1, 0), -3);
            }
        }
    }

    private static void oneWeightNotZero() {
        sentence = "promises 9 to 14: one weight that is not 0";
        for (int number = 0; number < 128; number++) {
            BayesFactors x = new BayesFactors(7);
            for (int v = 0; v < 7; v++) {
                x.enter(v, 0, 1 - (number >> v & 1), 0);
            }
            x.enter(6, 0, number >> 6, 9);
            due("total() of " + number, x.total(), 9);
            due("best() of " + number, x.best(), 9);
            due("bestNumber() of " + number, x.bestNumber(), number);
            for (int v = 0; v < 7; v++) {
                int value = number >> v & 1;
                due("totalWith its own of " + v, x.totalWith(v, value), 9);
                due("totalWith the other of " + v, x.totalWith(v, 1 - value), 0);
                due("bestWith its own of " + v, x.bestWith(v, value), 9);
                due("bestWith the other of " + v, x.bestWith(v, 1 - value), 0);
                x.observe(v, 1 - value);
                due("total() without it", x.total(), 0);
                due("best() without it", x.best(), 0);
                due("bestNumber() without it", x.bestNumber(), value == 0 ? 1 << v : 0);
                x.observe(v, 2);
            }
        }
    }

    private static void greatestThatEntriesAllow() {
        sentence = "promises 8 to 14: the greatest that entries allow";
        int[] weights = {0, 0, 81, 729, 6561, 59049, 531441, 4782969};
        long[] totals = {0, 0, 324, 5832, 104976, 1889568, 34012224, 612220032};
        for (int n = 2; n <= 7; n++) {
            BayesFactors x = new BayesFactors(n);
            for (int v = 0; v < n; v++) {
                x.parents(v, (1 << v) - 1 & 7);
                fill(x, v, 9);
            }
            String name = "all 9, of " + n + ": ";
            due(name + "weight(0)", x.weight(0), weights[n]);
            due(name + "weight(2^n - 1)", x.weight((1 << n) - 1), weights[n]);
            due(name + "total()", x.total(), totals[n]);
            due(name + "totalWith(0, 0)", x.totalWith(0, 0), totals[n] / 2);
            due(name + "totalWith(n - 1, 1)", x.totalWith(n - 1, 1), totals[n] / 2);
            due(name + "totalPair(0, 1, n - 1, 0)", x.totalPair(0, 1, n - 1, 0), totals[n] / 4);
            due(name + "totalPair(1, 1, 1, 1)", x.totalPair(1, 1, 1, 1), totals[n] / 2);
            due(name + "best()", x.best(), weights[n]);
            due(name + "bestNumber()", x.bestNumber(), 0);
            due(name + "bestWith(n - 1, 1)", x.bestWith(n - 1, 1), weights[n]);
            x.observe(0, 1);
            due(name + "total(), half of it", x.total(), totals[n] / 2);
            due(name + "bestNumber(), 0 observed", x.bestNumber(), 1);
        }
    }

    private static void totalWithOfAnObserved() {
        sentence = "promise 10: agreeing assignments in which v has the value";
        BayesFactors x = two();
        x.observe(0, 0);
        due("observed 0, asked 0", x.totalWith(0, 0), 27);
        due("observed 0, asked 1", x.totalWith(0, 1), 0);
        due("the other one, 0", x.totalWith(1, 0), 6);
        due("the other one, 1", x.totalWith(1, 1), 21);
        x.observe(0, 1);
        due("observed 1, asked 0", x.totalWith(0, 0), 0);
        due("observed 1, asked 1", x.totalWith(0, 1), 55);
        x.observe(0, 2);
        due("not any more, asked 0", x.totalWith(0, 0), 27);
        due("not any more, asked 1", x.totalWith(0, 1), 55);
    }

    private static void totalPairOfTheSame() {
        sentence = "promise 11: u and v may be the same";
        for (int n = 2; n <= 7; n++) {
            for (int v = 0; v < n; v++) {
                BayesFactors x = new BayesFactors(n);
                x.enter(v, 0, 0, 3);
                x.enter(v, 0, 1, 8);
                long half = 1L << n - 1;
                String name = "of " + v + " of " + n;
                due("0 and 0 " + name, x.totalPair(v, 0, v, 0), 3 * half);
                due("1 and 1 " + name, x.totalPair(v, 1, v, 1), 8 * half);
                due("0 and 1 " + name, x.totalPair(v, 0, v, 1), 0);
                due("1 and 0 " + name, x.totalPair(v, 1, v, 0), 0);
                x.observe(v, 1);
                due("0 and 0, observed 1, " + name, x.totalPair(v, 0, v, 0), 0);
                due("1 and 1, observed 1, " + name, x.totalPair(v, 1, v, 1), 8 * half);
                due("0 and 1, observed 1, " + name, x.totalPair(v, 0, v, 1), 0);
                due("1 and 0, observed 1, " + name, x.totalPair(v, 1, v, 0), 0);
            }
        }
    }

    private static void totalPairOfObserved() {
        sentence = "promise 11: agreeing assignments";
        int[] want = {6, 20, 21, 35};
        for (int first = 0; first <= 2; first++) {
            for (int second = 0; second <= 2; second++) {
                BayesFactors x = two();
                x.observe(0, first);
                x.observe(1, second);
                for (int number = 0; number < 4; number++) {
                    int a = number & 1;
                    int b = number >> 1;
                    boolean agrees = first != 1 - a && second != 1 - b;
                    String name = "observed " + first + ", " + second + ", asked " + a + ", " + b;
                    due(name, x.totalPair(0, a, 1, b), agrees ? want[number] : 0);
                    due(name + ", turned", x.totalPair(1, b, 0, a), agrees ? want[number] : 0);
                }
            }
        }
    }

    // Promise 13

    private static void bestNumberIsTheLeast() {
        sentence = "promise 13: the least number";
        for (int first = 0; first < 8; first++) {
            for (int second = first; second < 8; second++) {
                BayesFactors x = everyLesserOneIsAParent();
                x.enter(0, 0, 0, 2);
                x.enter(0, 0, 1, 2);
                // The row of 3 is the number of the values of 0, 1 and 2, so every assignment has its own entry.
                x.enter(3, first, 1, 4);
                x.enter(3, second, 1, 4);
                due("the best are " + first + " and " + second, x.bestNumber(), 8 + first);
                x.enter(3, second, 0, 4);
                due("and " + second + " with 3 being 0", x.bestNumber(), second);
                x.enter(3, 7, 1, 5);
                due("the last one is best alone", x.bestNumber(), 15);
            }
        }
    }

    private static void bestNumberAgrees() {
        sentence = "promise 13: of an agreeing assignment";
        for (int set = 0; set < 32; set++) {
            for (int ones = 0; ones <= set; ones++) {
                if ((ones & ~set) == 0) {
                    BayesFactors x = new BayesFactors(5);
                    for (int v = 0; v < 5; v++) {
                        x.observe(v, (set >> v & 1) == 0 ? 2 : ones >> v & 1);
                    }
                    due("all alike, observed " + ones + " of " + set, x.bestNumber(), ones);
                    for (int v = 0; v < 5; v++) {
                        x.enter(v, 0, 1, 2);
                    }
                    due("1 is better, observed " + ones + " of " + set, x.bestNumber(), ones | 31 & ~set);
                    due("its weight is best()", x.weight(ones | 31 & ~set), x.best());
                }
            }
        }
    }

    // Promise 15

    private static void separatedWithNoWay() {
        sentence = "promise 15: separated if there is no way";
        for (int n = 2; n <= 7; n++) {
            for (int u = 0; u < n; u++) {
                for (int v = 0; v < n; v++) {
                    if (u != v) {
                        due(u + " and " + v + " of " + n, new BayesFactors(n).separated(u, v), 1);
                        BayesFactors x = new BayesFactors(n);
                        x.parents(Math.max(u, v), 1 << Math.min(u, v));
                        due(u + " and " + v + " of " + n + " with a line", x.separated(u, v), 0);
                    }
                }
            }
        }
    }

    private static void separatedOnEveryWay() {
        sentence = "terms: every way from u to v passes through an observed variable";
        // Three ways from 0 to 4: through 1, 2 and 3.
        for (int observed = 0; observed < 8; observed++) {
            BayesFactors x = new BayesFactors(5);
            x.parents(1, 1);
            x.parents(2, 1);
            x.parents(3, 1);
            x.parents(4, 14);
            for (int w = 0; w < 3; w++) {
                x.observe(w + 1, (observed >> w & 1) == 0 ? 2 : 1);
            }
            due("observed " + observed, x.separated(0, 4), observed == 7 ? 1 : 0);
            due("observed " + observed + ", turned", x.separated(4, 0), observed == 7 ? 1 : 0);
        }
        // Along a chain of seven, any one between the ends is enough.
        for (int between = 0; between < 7; between++) {
            BayesFactors x = new BayesFactors(7);
            for (int v = 1; v < 7; v++) {
                x.parents(v, 1 << v - 1);
            }
            due("chain", x.separated(0, 6), 0);
            x.observe(between, 0);
            due("chain, observed " + between, x.separated(0, 6), between == 0 || between == 6 ? -3 : 1);
        }
    }

    private static void separatedByAncestors() {
        sentence = "terms: together with all parents of members, their parents, and so on";
        // 0 and 1 are the parents of 2, and a chain leads on from 2 to 6.
        for (int observed = 2; observed < 7; observed++) {
            BayesFactors x = new BayesFactors(7);
            x.parents(2, 3);
            for (int v = 3; v < 7; v++) {
                x.parents(v, 1 << v - 1);
            }
            due("nothing observed", x.separated(0, 1), 1);
            x.observe(observed, 1);
            due("observed " + observed, x.separated(0, 1), 0);
            x.observe(observed, 2);
            due("not any more " + observed, x.separated(0, 1), 1);
        }
        // A common ancestor of 5 and 6, far away from both: 0 is the parent of 1 and 2, then 1, 3, 5 and 2, 4, 6.
        BayesFactors y = new BayesFactors(7);
        y.parents(1, 1);
        y.parents(2, 1);
        for (int v = 3; v < 7; v++) {
            y.parents(v, 1 << v - 2);
        }
        due("common ancestor", y.separated(5, 6), 0);
        y.observe(0, 0);
        due("common ancestor observed", y.separated(5, 6), 1);
    }

    private static void separatedWithoutACommonChild() {
        sentence = "terms: between any two members of A that are both parents of a common member of A";
        // 3 has the parents 0, 1 and 2, each two of which are joined if it belongs to A.
        for (int u = 0; u < 3; u++) {
            for (int v = 0; v < 3; v++) {
                if (u != v) {
                    BayesFactors x = new BayesFactors(4);
                    x.parents(3, 7);
                    due(u + " and " + v + ", child outside", x.separated(u, v), 1);
                    x.observe(3, 0);
                    due(u + " and " + v + ", child inside", x.separated(u, v), 0);
                    x.observe(3 - u - v, 1);
                    due(u + " and " + v + ", third parent observed", x.separated(u, v), 0);
                }
            }
        }
        // The way from 0 to 4 needs the line between 1 and 2, the parents of 3.
        BayesFactors y = new BayesFactors(5);
        y.parents(1, 1);
        y.parents(3, 6);
        y.parents(4, 4);
        due("child outside", y.separated(0, 4), 1);
        due("to the child", y.separated(0, 3), 0);
        y.observe(3, 1);
        due("child observed", y.separated(0, 4), 0);
        y.observe(2, 1);
        due("child and its parent observed", y.separated(0, 4), 1);
    }

    // Promise 16

    private static void independentOfTheSame() {
        sentence = "promise 16: u and v the same";
        BayesFactors x = two();
        due("both values", x.independent(0, 0), 0);
        x.enter(0, 0, 1, 0);
        due("value 0 only", x.independent(0, 0), 1);
        x.enter(0, 0, 1, 1);
        x.enter(0, 0, 0, 0);
        due("value 1 only", x.independent(0, 0), 1);
        x.enter(0, 0, 1, 0);
        due("no value", x.independent(0, 0), 1);
    }

    private static void independentOfObserved() {
        sentence = "promise 16: observed ones are not refused";
        for (int value = 0; value <= 1; value++) {
            BayesFactors x = two();
            due("none", x.independent(0, 1), 0);
            x.observe(0, value);
            due("u is " + value, x.independent(0, 1), 1);
            due("v is " + value, x.independent(1, 0), 1);
            due("same is " + value, x.independent(0, 0), 1);
            due("same, other is " + value, x.independent(1, 1), 0);
            x.observe(1, 1 - value);
            due("both", x.independent(0, 1), 1);
            x.observe(0, 2);
            x.observe(1, 2);
            due("none any more", x.independent(0, 1), 0);
        }
    }

    private static void independentForAllValues() {
        sentence = "promise 16: for all a and b";
        // Of the four products each one can be spoilt by an entry.
        for (int place = 0; place < 4; place++) {
            BayesFactors x = new BayesFactors(2);
            x.parents(1, 1);
            due("before", x.independent(0, 1), 1);
            x.enter(1, place / 2, place % 2, 2);
            due("entry " + place, x.independent(0, 1), 0);
            due("entry " + place + ", turned", x.independent(1, 0), 0);
        }
        // Two causes are independent until their common effect is observed.
        BayesFactors y = new BayesFactors(3);
        y.parents(2, 3);
        y.enter(2, 0, 0, 2);
        y.enter(2, 0, 1, 0);
        y.enter(2, 3, 0, 0);
        y.enter(2, 3, 1, 2);
        due("effect not observed", y.independent(0, 1), 1);
        y.observe(2, 1);
        due("effect observed", y.independent(0, 1), 0);
    }

    private static void independentAtTheGreatest() {
        sentence = "terms: all sums fit into a long";
        // The products are the greatest that there are, near 18^14.
        for (int u = 0; u < 7; u++) {
            for (int v = u + 1; v < 7; v++) {
                BayesFactors x = new BayesFactors(7);
                for (int w = 0; w < 7; w++) {
                    fill(x, w, 9);
                }
                due("all 9", x.independent(u, v), 1);
                due("all 9, same", x.independent(u, u), 0);
                x.parents(v, 1 << u);
                fill(x, v, 9);
                due("all 9, with a parent", x.independent(u, v), 1);
                x.enter(v, 1, 1, 8);
                due("one 8", x.independent(u, v), 0);
                due("one 8, turned", x.independent(v, u), 0);
            }
        }
    }

    private static void independentBeyondAnInt() {
        sentence = "terms: all sums fit into a long";
        // With all entries 8 every product is a multiple of 2^32, so in ints all of them would be alike.
        for (int v = 1; v < 7; v++) {
            BayesFactors x = new BayesFactors(7);
            x.parents(v, 1);
            for (int w = 0; w < 7; w++) {
                fill(x, w, 8);
            }
            due("all 8", x.independent(0, v), 1);
            due("all 8, same", x.independent(v, v), 0);
            x.enter(v, 0, 1, 0);
            x.enter(v, 1, 0, 0);
            due(v + " is always like 0", x.independent(0, v), 0);
            due(v + " is always like 0, turned", x.independent(v, 0), 0);
        }
    }

    private static void independentByADifferenceOfOne() {
        sentence = "promise 16: equals";
        // In a chain of tables whose determinant is 8 * 8 - 9 * 7 = 1, the products at its ends differ by 1.
        BayesFactors x = new BayesFactors(7);
        for (int v = 1; v < 7; v++) {
            x.parents(v, 1 << v - 1);
            x.enter(v, 0, 0, 8);
            x.enter(v, 0, 1, 9);
            x.enter(v, 1, 0, 7);
            x.enter(v, 1, 1, 8);
        }
        long product = x.total() * x.totalPair(0, 0, 6, 0);
        due("the difference", product - x.totalWith(0, 0) * x.totalWith(6, 0), 1);
        due("independent(0, 6)", x.independent(0, 6), 0);
        due("independent(6, 0)", x.independent(6, 0), 0);
        x.parents(3, 0);
        due("the chain is cut", x.independent(0, 6), 1);
    }

    // Promise 17

    private static void blanketEmpty() {
        sentence = "promise 17: no parent and no child";
        for (int n = 2; n <= 7; n++) {
            BayesFactors x = new BayesFactors(n);
            for (int v = 0; v < n; v++) {
                due("blanket(" + v + ") of " + n, x.blanket(v), 0);
            }
        }
    }

    private static void blanketFull() {
        sentence = "promise 17: parents, children, parents of children";
        BayesFactors x = new BayesFactors(7);
        x.parents(3, 7);
        due("the parents of 3", x.blanket(3), 7);
        x.parents(4, 8);
        x.parents(5, 8);
        x.parents(6, 8);
        due("all others", x.blanket(3), 119);
        due("parents of a common child", x.blanket(0), 14);
        due("children of a common parent are none", x.blanket(6), 8);
        BayesFactors y = new BayesFactors(7);
        y.parents(6, 7);
        y.parents(5, 25);
        due("all others of 0", y.blanket(0), 126);
        due("blanket(1)", y.blanket(1), 69);
        due("blanket(4)", y.blanket(4), 41);
    }

    private static void blanketWithoutItself() {
        sentence = "promise 17: without v itself";
        for (int n = 2; n <= 7; n++) {
            BayesFactors x = new BayesFactors(n);
            for (int v = 1; v < n; v++) {
                x.parents(v, (1 << v) - 1 & 7);
            }
            for (int v = 0; v < n; v++) {
                due("bit of " + v + " of " + n, x.blanket(v) >> v & 1, 0);
            }
            due("blanket(0) of " + n, x.blanket(0), (1 << n) - 2);
        }
    }

    // What it is

    private static void theLastCallIsAnswered() {
        sentence = "what it is: at most 512 calls";
        lastCall("variables()", x -> x.variables(), 2);
        lastCall("parents(1, 0)", x -> x.parents(1, 0), 1);
        lastCall("enter(1, 1, 1, 9)", x -> x.enter(1, 1, 1, 9), 7);
        lastCall("sow(1, 9)", x -> x.sow(1, 9), 4);
        lastCall("observe(1, 2)", x -> x.observe(1, 2), 0);
        lastCall("parentsOf(1)", x -> x.parentsOf(1), 1);
        lastCall("weight(3)", x -> x.weight(3), 35);
        lastCall("total()", x -> x.total(), 26);
        lastCall("totalWith(0, 1)", x -> x.totalWith(0, 1), 20);
        lastCall("totalPair(0, 0, 1, 0)", x -> x.totalPair(0, 0, 1, 0), 6);
        lastCall("best()", x -> x.best(), 20);
        lastCall("bestNumber()", x -> x.bestNumber(), 1);
        lastCall("bestWith(0, 0)", x -> x.bestWith(0, 0), 6);
        lastCall("bestWith(1, 1)", x -> x.bestWith(1, 1), -3);
        lastCall("separated(0, 1)", x -> x.separated(0, 1), -3);
        lastCall("independent(0, 1)", x -> x.independent(0, 1), 1);
        lastCall("blanket(0)", x -> x.blanket(0), 2);
        lastCall("blanket(2)", x -> x.blanket(2), -1);
    }

    private static void lastCall(String name, Call call, long want) {
        BayesFactors x = two();
        // Making it takes 7 calls; the changes below come back to what it was, with 1 observed to be 0.
        int calls = 7;
        while (calls + 5 < CALLS_OF_AN_OBJECT) {
            x.observe(1, 1);
            x.enter(1, 1, 1, calls % 10);
            x.enter(1, 1, 1, 7);
            x.parents(1, 2);
            calls += 4;
        }
        while (calls < CALLS_OF_AN_OBJECT - 1) {
            x.observe(1, 0);
            calls++;
        }
        due("call 512, " + name, call.on(x), want);
    }

    // What the tests share

    private static void due(String call, long got, long want) {
        if (got != want) {
            wrong++;
            System.out.println(sentence + ": " + call + " answered " + got + ", due is " + want);
        }
    }

    /** Two variables, 0 a parent of 1; the weights of 0, 1, 2 and 3 are 6, 20, 21 and 35, together 82. */
    private static BayesFactors two() {
        BayesFactors x = new BayesFactors(2);
        x.parents(1, 1);
        x.enter(0, 0, 0, 3);
        x.enter(0, 0, 1, 5);
        x.enter(1, 0, 0, 2);
        x.enter(1, 0, 1, 7);
        x.enter(1, 1, 0, 4);
        x.enter(1, 1, 1, 7);
        return x;
    }

    /** Four variables with tables of 2, 4, 8 and 16 entries. */
    private static BayesFactors everyLesserOneIsAParent() {
        BayesFactors x = new BayesFactors(4);
        x.parents(1, 1);
        x.parents(2, 3);
        x.parents(3, 7);
        return x;
    }

    private static void fill(BayesFactors x, int v, int entry) {
        int rows = 1 << Integer.bitCount(x.parentsOf(v));
        for (int row = 0; row < rows; row++) {
            x.enter(v, row, 0, entry);
            x.enter(v, row, 1, entry);
        }
    }

    private static void isFullOf(String name, BayesFactors x, int v, int entry) {
        int rows = 1 << Integer.bitCount(x.parentsOf(v));
        for (int row = 0; row < rows; row++) {
            due(name + ", row " + row + " own 0", x.enter(v, row, 0, entry), entry);
            due(name + ", row " + row + " own 1", x.enter(v, row, 1, entry), entry);
        }
    }
}
