import java.util.ArrayList;
import java.util.List;

/**
 * Each sentence of the document by which a call is refused has a test of its own here: the last argument
 * that is allowed and the first that is not, on both sides; the least and the greatest int; the order of
 * the tests; and that all questions answer afterwards what they answered before.
 */
public final class RefusedCallsTest {
    private interface Network {
        BayesFactors make();
    }

    private interface Call {
        long on(BayesFactors x);
    }

    private interface Questions {
        List<Long> ask(BayesFactors x);
    }

    private static final int LEAST = Integer.MIN_VALUE;
    private static final int GREATEST = Integer.MAX_VALUE;
    private static final int CALLS_OF_AN_OBJECT = 512;
    private static final int MOST_CALLS_TO_MAKE = 80;

    // The sets of parents in a busy network: of 0, 1, 2, 3, 2, 3 and 1 members.
    private static final int[] PARENTS = {0, 1, 3, 7, 10, 21, 32};

    // An object has too few calls to be asked everything twice, so every part is asked of an object of its own.
    private static final List<Questions> PARTS =
        List.of(RefusedCallsTest::weights, RefusedCallsTest::sums, RefusedCallsTest::otherAnswers);

    private static String sentence = "";
    private static int refusals = 0;
    private static int wrong = 0;

    public static void main(String[] args) {
        parentsOfNoGoodVariable();
        parentsNotLessThanTheVariable();
        parentsMoreThanThree();
        parentsNegativeSet();
        enterForNoGoodVariable();
        enterInNoRowOfTheTable();
        enterRowsFollowTheParents();
        enterForNoOwnValue();
        enterNoEntry();
        enterInTheOrderNamed();
        sowForNoGoodVariable();
        sowNoSeed();
        observeNoGoodVariable();
        observeNoValue();
        parentsOfAsksNoGoodVariable();
        weightOfNoNumber();
        totalWithNoGoodVariable();
        totalWithNoValue();
        totalPairNoGoodVariable();
        totalPairNoValue();
        totalPairInTheOrderNamed();
        bestWithNoGoodVariable();
        bestWithNoValue();
        bestWithTheOtherValue();
        separatedNoGoodVariable();
        separatedTheSame();
        separatedOneObserved();
        independentNoGoodVariable();
        blanketNoGoodVariable();
        noQuestionChangesAnything();
        System.out.println(refusals + " refused calls; "
            + (wrong == 0 ? "all answers are as due" : wrong + " answers are not as due"));
        if (wrong != 0) {
            System.exit(1);
        }
    }

    // Promise 3

    private static void parentsOfNoGoodVariable() {
        sentence = "promise 3: -1 if v is not good";
        for (int n = 2; n <= 7; n++) {
            for (int v : notGood(n)) {
                refused(busy(n), "parents(" + v + ", 0)", x -> x.parents(v, 0), -1);
            }
            for (int set : new int[] {1, 15, 1 << n, -1, LEAST, GREATEST}) {
                int beyond = n;
                refused(busy(n), "parents(n, " + set + ")", x -> x.parents(beyond, set), -1);
                refused(busy(n), "parents(-1, " + set + ")", x -> x.parents(-1, set), -1);
            }
            due("parents(0, 0)", busy(n).make().parents(0, 0), 0);
            due("parents(n - 1, 0)", busy(n).make().parents(n - 1, 0), PARENTS[n - 1]);
        }
    }

    private static void parentsNotLessThanTheVariable() {
        sentence = "promise 3: -2 if set has a member that is not less than v";
        for (int v = 0; v < 7; v++) {
            int child = v;
            for (int member = v; member <= 30; member++) {
                int set = 1 << member;
                refused(busy(7), "parents(" + v + ", " + set + ")", x -> x.parents(child, set), -2);
            }
            int withLess = 1 << v | 1;
            if (v > 0) {
                refused(busy(7), "parents(" + v + ", " + withLess + ")", x -> x.parents(child, withLess), -2);
                due("the greatest less one of " + v, busy(7).make().parents(v, 1 << v - 1), PARENTS[v]);
            }
        }
        for (int n = 2; n < 7; n++) {
            int last = n - 1;
            refused(busy(n), "parents(n - 1, itself)", x -> x.parents(last, 1 << last), -2);
            refused(busy(n), "parents(n - 1, n)", x -> x.parents(last, 1 << last + 1), -2);
            refused(busy(n), "parents(0, 2)", x -> x.parents(0, 2), -2);
        }
    }

    private static void parentsMoreThanThree() {
        sentence = "promise 3: -2 if set has more than 3 members";
        for (int v = 3; v < 7; v++) {
            int child = v;
            for (int set = 0; set < 1 << v; set++) {
                int tried = set;
                if (Integer.bitCount(set) > 3) {
                    refused(busy(7), "parents(" + v + ", " + set + ")", x -> x.parents(child, tried), -2);
                } else {
                    BayesFactors x = busy(7).make();
                    due("parents(" + v + ", " + set + ")", x.parents(v, set), PARENTS[v]);
                    due("parentsOf(" + v + ") after it", x.parentsOf(v), set);
                }
            }
        }
    }

    private static void parentsNegativeSet() {
        sentence = "promise 3: -2 if set is negative";
        for (int v = 0; v < 7; v++) {
            int child = v;
            for (int set : new int[] {-1, -2, -8, -64, -128, LEAST, LEAST + 1, LEAST + 2, LEAST + 3}) {
                refused(busy(7), "parents(" + v + ", " + set + ")", x -> x.parents(child, set), -2);
            }
            due("parents(" + v + ", 0)", busy(7).make().parents(v, 0), PARENTS[v]);
        }
        refused(busy(2), "parents(1, -1)", x -> x.parents(1, -1), -2);
        refused(busy(2), "parents(1, least)", x -> x.parents(1, LEAST), -2);
        refused(busy(7), "parents(6, greatest)", x -> x.parents(6, GREATEST), -2);
    }

    // Promise 4

    private static void enterForNoGoodVariable() {
        sentence = "promise 4: -1 if v is not good";
        for (int n = 2; n <= 7; n++) {
            for (int v : notGood(n)) {
                refused(busy(n), "enter(" + v + ", 0, 0, 0)", x -> x.enter(v, 0, 0, 0), -1);
            }
            due("enter(0, 0, 0, 0)", busy(n).make().enter(0, 0, 0, 0), entryOf(0, 0, 0));
            due("enter(n - 1, 0, 1, 0)", busy(n).make().enter(n - 1, 0, 1, 0), entryOf(n - 1, 0, 1));
        }
    }

    private static void enterInNoRowOfTheTable() {
        sentence = "promise 4: -2 if row is not in 0 .. 2^k - 1 for its k parents";
        for (int v = 0; v < 7; v++) {
            int rows = rowsOf(v);
            int owner = v;
            for (int row : new int[] {rows, rows + 1, 8, 16, -1, -2, 1 << 30, LEAST, LEAST + 1, GREATEST}) {
                for (int own = 0; own <= 1; own++) {
                    int value = own;
                    refused(busy(7), "enter(" + v + ", " + row + ", " + own + ", 0)",
                        x -> x.enter(owner, row, value, 0), -2);
                }
            }
            for (int row : new int[] {0, rows - 1}) {
                BayesFactors x = busy(7).make();
                due("enter(" + v + ", " + row + ", 1, 0)", x.enter(v, row, 1, 0), entryOf(v, row, 1));
                due("enter(" + v + ", " + row + ", 1, 9)", x.enter(v, row, 1, 9), 0);
            }
        }
    }

    private static void enterRowsFollowTheParents() {
        sentence = "promise 4: -2 if row is not in 0 .. 2^k - 1 for its k parents";
        int[] sets = {7, 0, 32, 40, 56, 48, 4, 0, 21};
        int[] rows = {8, 1, 2, 4, 8, 4, 2, 1, 8};
        BayesFactors x = new BayesFactors(7);
        for (int i = 0; i < sets.length; i++) {
            x.parents(6, sets[i]);
            due("last row with " + sets[i], x.enter(6, rows[i] - 1, 1, 5), 1);
            due("row after it with " + sets[i], x.enter(6, rows[i], 0, 5), -2);
            due("row -1 with " + sets[i], x.enter(6, -1, 1, 5), -2);
            due("refused parents with " + sets[i], x.parents(6, 15), -2);
            due("last row afterwards with " + sets[i], x.enter(6, rows[i] - 1, 1, 5), 5);
            due("row after it afterwards with " + sets[i], x.enter(6, rows[i], 1, 5), -2);
        }
        due("rows of 6 are not rows of 5", x.enter(5, 1, 0, 5), -2);
    }

    private static void enterForNoOwnValue() {
        sentence = "promise 4: -3 if own is not 0 or 1";
        for (int v = 0; v < 7; v++) {
            int owner = v;
            int last = rowsOf(v) - 1;
            for (int own : new int[] {2, 3, 16, -1, -2, LEAST, LEAST + 1, GREATEST}) {
                refused(busy(7), "enter(" + v + ", 0, " + own + ", 0)", x -> x.enter(owner, 0, own, 0), -3);
                refused(busy(7), "enter(" + v + ", last, " + own + ", 0)", x -> x.enter(owner, last, own, 0), -3);
            }
            due("own 0", busy(7).make().enter(v, last, 0, 0), entryOf(v, last, 0));
            due("own 1", busy(7).make().enter(v, last, 1, 0), entryOf(v, last, 1));
        }
    }

    private static void enterNoEntry() {
        sentence = "promise 4: -4 if entry is not in 0 .. 9";
        for (int v = 0; v < 7; v++) {
            int owner = v;
            int last = rowsOf(v) - 1;
            for (int entry : new int[] {10, 11, -1, -9, LEAST, LEAST + 1, GREATEST}) {
                refused(busy(7), "enter(" + v + ", 0, 0, " + entry + ")", x -> x.enter(owner, 0, 0, entry), -4);
                refused(busy(7), "enter(" + v + ", last, 1, " + entry + ")",
                    x -> x.enter(owner, last, 1, entry), -4);
            }
            BayesFactors x = busy(7).make();
            due("entry 0", x.enter(v, last, 1, 0), entryOf(v, last, 1));
            due("entry 9", x.enter(v, last, 1, 9), 0);
            due("entry 9 is there", x.enter(v, last, 1, 8), 9);
        }
    }

    private static void enterInTheOrderNamed() {
        sentence = "promise 4, the order of -1, -2, -3, -4";
        int[][] bad = {{7, 8, 2, 10}, {-1, -1, -1, -1}, {LEAST, LEAST, LEAST, LEAST},
            {GREATEST, GREATEST, GREATEST, GREATEST}};
        for (int failing = 1; failing < 16; failing++) {
            for (int[] wrongOnes : bad) {
                int v = (failing & 1) != 0 ? wrongOnes[0] : 3;
                int row = (failing & 2) != 0 ? wrongOnes[1] : 7;
                int own = (failing & 4) != 0 ? wrongOnes[2] : 1;
                int entry = (failing & 8) != 0 ? wrongOnes[3] : 9;
                int first = -1 - Integer.numberOfTrailingZeros(failing);
                refused(busy(7), "enter(" + v + ", " + row + ", " + own + ", " + entry + ")",
                    x -> x.enter(v, row, own, entry), first);
            }
        }
        due("nothing fails", busy(7).make().enter(3, 7, 1, 9), entryOf(3, 7, 1));
    }

    // Promise 5

    private static void sowForNoGoodVariable() {
        sentence = "promise 5: -1 if v is not good";
        for (int n = 2; n <= 7; n++) {
            for (int v : notGood(n)) {
                refused(busy(n), "sow(" + v + ", 4)", x -> x.sow(v, 4), -1);
            }
            for (int seed : new int[] {10, -1, LEAST, GREATEST}) {
                int beyond = n;
                refused(busy(n), "sow(n, " + seed + ")", x -> x.sow(beyond, seed), -1);
                refused(busy(n), "sow(-1, " + seed + ")", x -> x.sow(-1, seed), -1);
            }
            due("sow(0, 4)", busy(n).make().sow(0, 4), 2);
            due("sow(n - 1, 4)", busy(n).make().sow(n - 1, 4), 2 * rowsOf(n - 1));
        }
    }

    private static void sowNoSeed() {
        sentence = "promise 5: -2 if seed is not in 0 .. 9";
        for (int v = 0; v < 7; v++) {
            int owner = v;
            for (int seed : new int[] {10, 11, 20, -1, -10, LEAST, LEAST + 1, GREATEST}) {
                refused(busy(7), "sow(" + v + ", " + seed + ")", x -> x.sow(owner, seed), -2);
            }
            due("sow(" + v + ", 0)", busy(7).make().sow(v, 0), 2 * rowsOf(v));
            due("sow(" + v + ", 9)", busy(7).make().sow(v, 9), 2 * rowsOf(v));
        }
    }

    // Promise 6

    private static void observeNoGoodVariable() {
        sentence = "promise 6: -1 if v is not good";
        for (int n = 2; n <= 7; n++) {
            int beyond = n;
            for (int v : notGood(n)) {
                for (int value = 0; value <= 2; value++) {
                    int seen = value;
                    refused(busy(n, 0, 1), "observe(" + v + ", " + value + ")", x -> x.observe(v, seen), -1);
                }
            }
            for (int value : new int[] {3, -1, LEAST, GREATEST}) {
                refused(busy(n), "observe(n, " + value + ")", x -> x.observe(beyond, value), -1);
                refused(busy(n), "observe(-1, " + value + ")", x -> x.observe(-1, value), -1);
            }
            due("observe(0, 0)", busy(n, 0, 1).make().observe(0, 0), 1);
            due("observe(n - 1, 1)", busy(n, n - 1, 0).make().observe(n - 1, 1), 0);
        }
    }

    private static void observeNoValue() {
        sentence = "promise 6: -2 if value is not in 0 .. 2";
        for (int v = 0; v < 7; v++) {
            int seen = v;
            for (int before = 0; before <= 2; before++) {
                Network network = busy(7, v, before);
                for (int value : new int[] {3, 4, -1, -2, LEAST, LEAST + 1, GREATEST}) {
                    refused(network, "observe(" + v + ", " + value + ")", x -> x.observe(seen, value), -2);
                }
                for (int value = 0; value <= 2; value++) {
                    BayesFactors x = network.make();
                    due("observe(" + v + ", " + value + ")", x.observe(v, value), before);
                    due("observe(" + v + ", 2) after it", x.observe(v, 2), value);
                }
            }
        }
    }

    // Promises 7 and 8

    private static void parentsOfAsksNoGoodVariable() {
        sentence = "promise 7: -1 if v is not good";
        for (int n = 2; n <= 7; n++) {
            for (int v : notGood(n)) {
                refused(busy(n), "parentsOf(" + v + ")", x -> x.parentsOf(v), -1);
            }
            due("parentsOf(0)", busy(n).make().parentsOf(0), 0);
            due("parentsOf(n - 1)", busy(n).make().parentsOf(n - 1), PARENTS[n - 1]);
        }
    }

    private static void weightOfNoNumber() {
        sentence = "promise 8: -1 if number is not in 0 .. 2^n - 1";
        for (int n = 2; n <= 7; n++) {
            int beyond = 1 << n;
            for (int number : new int[] {beyond, beyond + 1, 2 * beyond, 128, -1, -beyond, 1 << 30, LEAST,
                LEAST + 1, GREATEST}) {
                refused(busy(n), "weight(" + number + ")", x -> x.weight(number), -1);
            }
            due("weight(0)", busy(n).make().weight(0), weightByHand(n, 0));
            due("weight(2^n - 1)", busy(n).make().weight(beyond - 1), weightByHand(n, beyond - 1));
        }
    }

    // Promises 10 and 11

    private static void totalWithNoGoodVariable() {
        sentence = "promise 10: -1 if v is not good";
        for (int n = 2; n <= 7; n++) {
            for (int v : notGood(n)) {
                for (int value : new int[] {0, 1, 2, -1, LEAST, GREATEST}) {
                    refused(busy(n), "totalWith(" + v + ", " + value + ")", x -> x.totalWith(v, value), -1);
                }
            }
            due("totalWith(0, 1)", busy(n).make().totalWith(0, 1), sumByHand(n, 1, 1));
            due("totalWith(n - 1, 0)", busy(n).make().totalWith(n - 1, 0), sumByHand(n, 1 << n - 1, 0));
        }
    }

    private static void totalWithNoValue() {
        sentence = "promise 10: -2 if value is not 0 or 1";
        for (int n : new int[] {2, 7}) {
            for (int v = 0; v < n; v++) {
                int asked = v;
                for (int observed = 0; observed <= 2; observed++) {
                    for (int value : new int[] {2, 3, -1, -2, LEAST, LEAST + 1, GREATEST}) {
                        refused(busy(n, v, observed), "totalWith(" + v + ", " + value + ")",
                            x -> x.totalWith(asked, value), -2);
                    }
                }
                due("totalWith(" + v + ", 0)", busy(n).make().totalWith(v, 0), sumByHand(n, 1 << v, 0));
                due("totalWith(" + v + ", 1)", busy(n).make().totalWith(v, 1), sumByHand(n, 1 << v, 1 << v));
            }
        }
    }

    private static void totalPairNoGoodVariable() {
        sentence = "promise 11: -1 if u or v is not good";
        for (int n = 2; n <= 7; n++) {
            int last = n - 1;
            for (int bad : notGood(n)) {
                refused(busy(n), "totalPair(" + bad + ", 0, 0, 0)", x -> x.totalPair(bad, 0, 0, 0), -1);
                refused(busy(n), "totalPair(n - 1, 1, " + bad + ", 1)", x -> x.totalPair(last, 1, bad, 1), -1);
                refused(busy(n), "totalPair(" + bad + ", 0, same, 0)", x -> x.totalPair(bad, 0, bad, 0), -1);
                refused(busy(n), "totalPair(" + bad + ", 0, same, 1)", x -> x.totalPair(bad, 0, bad, 1), -1);
            }
            due("totalPair(0, 0, n - 1, 1)", busy(n).make().totalPair(0, 0, last, 1),
                sumByHand(n, 1 | 1 << last, 1 << last));
            due("totalPair(n - 1, 0, 0, 1)", busy(n).make().totalPair(last, 0, 0, 1),
                sumByHand(n, 1 | 1 << last, 1));
        }
    }

    private static void totalPairNoValue() {
        sentence = "promise 11: -2 if a or b is not 0 or 1";
        for (int n : new int[] {2, 7}) {
            int last = n - 1;
            for (int bad : new int[] {2, 3, -1, -2, LEAST, LEAST + 1, GREATEST}) {
                for (int good = 0; good <= 1; good++) {
                    int value = good;
                    refused(busy(n), "a is " + bad, x -> x.totalPair(0, bad, last, value), -2);
                    refused(busy(n), "b is " + bad, x -> x.totalPair(0, value, last, bad), -2);
                    refused(busy(n), "same, a is " + bad, x -> x.totalPair(last, bad, last, value), -2);
                    refused(busy(n), "same, b is " + bad, x -> x.totalPair(last, value, last, bad), -2);
                }
                refused(busy(n), "both are " + bad, x -> x.totalPair(0, bad, last, bad), -2);
                refused(busy(n), "same, both are " + bad, x -> x.totalPair(0, bad, 0, bad), -2);
            }
            for (int a = 0; a <= 1; a++) {
                for (int b = 0; b <= 1; b++) {
                    due("totalPair(0, " + a + ", n - 1, " + b + ")", busy(n).make().totalPair(0, a, last, b),
                        sumByHand(n, 1 | 1 << last, a | b << last));
                }
            }
        }
    }

    private static void totalPairInTheOrderNamed() {
        sentence = "promise 11, the order of -1 and -2";
        int[][] bad = {{3, 2}, {-1, -1}, {LEAST, LEAST}, {GREATEST, GREATEST}};
        for (int failing = 1; failing < 16; failing++) {
            for (int[] wrongOnes : bad) {
                int u = (failing & 1) != 0 ? wrongOnes[0] : 2;
                int v = (failing & 2) != 0 ? wrongOnes[0] : 1;
                int a = (failing & 4) != 0 ? wrongOnes[1] : 1;
                int b = (failing & 8) != 0 ? wrongOnes[1] : 0;
                refused(busy(3), "totalPair(" + u + ", " + a + ", " + v + ", " + b + ")",
                    x -> x.totalPair(u, a, v, b), (failing & 3) != 0 ? -1 : -2);
            }
        }
        due("nothing fails", busy(3).make().totalPair(2, 1, 1, 0), sumByHand(3, 6, 4));
    }

    // Promise 14

    private static void bestWithNoGoodVariable() {
        sentence = "promise 14: -1 if v is not good";
        for (int n = 2; n <= 7; n++) {
            for (int v : notGood(n)) {
                for (int value : new int[] {0, 1, 2, -1, LEAST, GREATEST}) {
                    refused(busy(n, 0, 1, n - 1, 0), "bestWith(" + v + ", " + value + ")",
                        x -> x.bestWith(v, value), -1);
                }
            }
            due("bestWith(0, 1)", busy(n).make().bestWith(0, 1), greatestByHand(n, 1, 1));
            due("bestWith(n - 1, 0)", busy(n).make().bestWith(n - 1, 0), greatestByHand(n, 1 << n - 1, 0));
        }
    }

    private static void bestWithNoValue() {
        sentence = "promise 14: -2 if value is not 0 or 1";
        for (int n : new int[] {2, 7}) {
            for (int v = 0; v < n; v++) {
                int asked = v;
                // An observed variable, too, has the value tested before the observation.
                for (int observed = 0; observed <= 2; observed++) {
                    for (int value : new int[] {2, 3, -1, -2, LEAST, LEAST + 1, GREATEST}) {
                        refused(busy(n, v, observed), "bestWith(" + v + ", " + value + ")",
                            x -> x.bestWith(asked, value), -2);
                    }
                }
                due("bestWith(" + v + ", 0)", busy(n).make().bestWith(v, 0), greatestByHand(n, 1 << v, 0));
                due("bestWith(" + v + ", 1)", busy(n).make().bestWith(v, 1), greatestByHand(n, 1 << v, 1 << v));
            }
        }
    }

    private static void bestWithTheOtherValue() {
        sentence = "promise 14: -3 if v is observed to have the other value";
        for (int n = 2; n <= 7; n++) {
            for (int v = 0; v < n; v++) {
                int asked = v;
                int other = v == 0 ? 1 : 0;
                for (int value = 0; value <= 1; value++) {
                    int due = value;
                    refused(busy(n, v, 1 - value), "observed to be the other one than " + value,
                        x -> x.bestWith(asked, due), -3);
                    int greatest = greatestByHand(n, 1 << v, value << v);
                    due("observed to be " + value, busy(n, v, value).make().bestWith(v, value), greatest);
                    due("not observed any more, " + value, busy(n, v, 1 - value, v, 2).make().bestWith(v, value),
                        greatest);
                    due("another one observed", busy(n, other, 1 - value).make().bestWith(v, value),
                        greatestByHand(n, 1 << v | 1 << other, value << v | 1 - value << other));
                }
            }
        }
    }

    // Promises 15, 16 and 17

    private static void separatedNoGoodVariable() {
        sentence = "promise 15: -1 if u or v is not good";
        for (int n = 2; n <= 7; n++) {
            int last = n - 1;
            for (int bad : notGood(n)) {
                refused(busy(n), "separated(" + bad + ", 0)", x -> x.separated(bad, 0), -1);
                refused(busy(n), "separated(n - 1, " + bad + ")", x -> x.separated(last, bad), -1);
                refused(busy(n), "separated(" + bad + ", same)", x -> x.separated(bad, bad), -1);
                refused(busy(n, 0, 1), "separated(observed, " + bad + ")", x -> x.separated(0, bad), -1);
                refused(busy(n, last, 0), "separated(" + bad + ", observed)", x -> x.separated(bad, last), -1);
            }
            due("separated(0, n - 1)", new BayesFactors(n).separated(0, last), 1);
            due("separated(n - 1, 0)", new BayesFactors(n).separated(last, 0), 1);
        }
    }

    private static void separatedTheSame() {
        sentence = "promise 15: -2 if they are the same";
        for (int n = 2; n <= 7; n++) {
            for (int v = 0; v < n; v++) {
                int both = v;
                for (int observed = 0; observed <= 2; observed++) {
                    refused(busy(n, v, observed), "separated(" + v + ", " + v + ")",
                        x -> x.separated(both, both), -2);
                }
            }
        }
    }

    private static void separatedOneObserved() {
        sentence = "promise 15: -3 if one of them is observed";
        for (int n : new int[] {2, 3, 7}) {
            for (int u = 0; u < n; u++) {
                for (int v = 0; v < n; v++) {
                    if (u != v) {
                        separatedObserved(n, u, v);
                    }
                }
            }
        }
    }

    private static void separatedObserved(int n, int u, int v) {
        String call = "separated(" + u + ", " + v + ") of " + n;
        for (int value = 0; value <= 1; value++) {
            refused(busy(n, u, value), call + ", u is " + value, x -> x.separated(u, v), -3);
            refused(busy(n, v, value), call + ", v is " + value, x -> x.separated(u, v), -3);
            refused(busy(n, u, value, v, 1), call + ", both", x -> x.separated(u, v), -3);
            BayesFactors x = new BayesFactors(n);
            x.observe(u, value);
            x.observe(u, 2);
            due(call + ", u not any more", x.separated(u, v), 1);
            for (int w = 0; w < n; w++) {
                x.observe(w, w == u || w == v ? 2 : value);
            }
            due(call + ", all others", x.separated(u, v), 1);
        }
    }

    private static void independentNoGoodVariable() {
        sentence = "promise 16: -1 if u or v is not good";
        for (int n = 2; n <= 7; n++) {
            int last = n - 1;
            for (int bad : notGood(n)) {
                refused(busy(n), "independent(" + bad + ", 0)", x -> x.independent(bad, 0), -1);
                refused(busy(n), "independent(n - 1, " + bad + ")", x -> x.independent(last, bad), -1);
                refused(busy(n), "independent(" + bad + ", same)", x -> x.independent(bad, bad), -1);
            }
            due("independent(0, n - 1)", new BayesFactors(n).independent(0, last), 1);
            due("independent(n - 1, 0)", new BayesFactors(n).independent(last, 0), 1);
            due("independent(n - 1, n - 1)", new BayesFactors(n).independent(last, last), 0);
        }
    }

    private static void blanketNoGoodVariable() {
        sentence = "promise 17: -1 if v is not good";
        int[] ofTheFirst = {0, 0, 2, 6, 14, 14, 62, 62};
        int[] ofTheLast = {0, 0, 1, 3, 7, 10, 21, 32};
        for (int n = 2; n <= 7; n++) {
            for (int v : notGood(n)) {
                refused(busy(n), "blanket(" + v + ")", x -> x.blanket(v), -1);
            }
            due("blanket(0) of " + n, busy(n).make().blanket(0), ofTheFirst[n]);
            due("blanket(n - 1) of " + n, busy(n).make().blanket(n - 1), ofTheLast[n]);
        }
    }

    // Terms

    private static void noQuestionChangesAnything() {
        sentence = "terms: no question changes anything";
        for (int n : new int[] {2, 4, 7}) {
            for (Network network : List.of(busy(n), busy(n, 1, 1), busy(n, 0, 0, n - 1, 1))) {
                for (int u = 0; u < n; u++) {
                    for (int v = 0; v < n; v++) {
                        askedOfTwo(network, u, v);
                    }
                    askedOfOne(network, u);
                }
                changesNothing(network, "variables()", x -> x.variables());
                changesNothing(network, "weight(0)", x -> x.weight(0));
                changesNothing(network, "weight(3)", x -> x.weight(3));
                changesNothing(network, "total()", x -> x.total());
                changesNothing(network, "best()", x -> x.best());
                changesNothing(network, "bestNumber()", x -> x.bestNumber());
            }
        }
    }

    private static void askedOfOne(Network network, int v) {
        changesNothing(network, "parentsOf(" + v + ")", x -> x.parentsOf(v));
        changesNothing(network, "blanket(" + v + ")", x -> x.blanket(v));
        changesNothing(network, "totalWith(" + v + ", 0)", x -> x.totalWith(v, 0));
        changesNothing(network, "totalWith(" + v + ", 1)", x -> x.totalWith(v, 1));
        changesNothing(network, "bestWith(" + v + ", 0)", x -> x.bestWith(v, 0));
        changesNothing(network, "bestWith(" + v + ", 1)", x -> x.bestWith(v, 1));
    }

    private static void askedOfTwo(Network network, int u, int v) {
        String pair = "(" + u + ", " + v + ")";
        changesNothing(network, "separated" + pair, x -> x.separated(u, v));
        changesNothing(network, "independent" + pair, x -> x.independent(u, v));
        changesNothing(network, "totalPair" + pair, x -> x.totalPair(u, 1, v, 0));
    }

    // What the tests share

    private static void due(String call, long got, long want) {
        if (got != want) {
            wrong++;
            System.out.println(sentence + ": " + call + " answered " + got + ", due is " + want);
        }
    }

    private static void refused(Network network, String name, Call call, long want) {
        refusals++;
        due(name, call.on(network.make()), want);
        changesNothing(network, name, call);
    }

    private static void changesNothing(Network network, String name, Call call) {
        for (Questions part : PARTS) {
            BayesFactors x = network.make();
            List<Long> before = part.ask(x);
            long first = call.on(x);
            List<Long> after = part.ask(x);
            same(name, before, after);
            due(name + " on another object", call.on(network.make()), first);
            if (MOST_CALLS_TO_MAKE + before.size() + 1 + after.size() > CALLS_OF_AN_OBJECT) {
                same("too many calls for one object", List.of(0L), List.of(1L));
            }
        }
        BayesFactors x = network.make();
        call.on(x);
        same(name, contents(network.make()), contents(x));
    }

    private static void same(String name, List<Long> before, List<Long> after) {
        if (!before.equals(after)) {
            wrong++;
            System.out.println(sentence + ": after " + name + " the answers are " + after + ", before " + before);
        }
    }

    private static List<Long> weights(BayesFactors x) {
        List<Long> answers = new ArrayList<>();
        int n = x.variables();
        answers.add((long) n);
        for (int number = 0; number < 1 << n; number++) {
            answers.add((long) x.weight(number));
        }
        return answers;
    }

    private static List<Long> sums(BayesFactors x) {
        List<Long> answers = new ArrayList<>();
        int n = x.variables();
        answers.add((long) n);
        answers.add(x.total());
        for (int u = 0; u < n; u++) {
            answers.add(x.totalWith(u, 0));
            answers.add(x.totalWith(u, 1));
            for (int v = 0; v < n; v++) {
                answers.add(x.totalPair(u, 0, v, 0));
                answers.add(x.totalPair(u, 0, v, 1));
                answers.add(x.totalPair(u, 1, v, 0));
                answers.add(x.totalPair(u, 1, v, 1));
            }
        }
        return answers;
    }

    private static List<Long> otherAnswers(BayesFactors x) {
        List<Long> answers = new ArrayList<>();
        int n = x.variables();
        answers.add((long) n);
        answers.add((long) x.best());
        answers.add((long) x.bestNumber());
        for (int u = 0; u < n; u++) {
            answers.add((long) x.parentsOf(u));
            answers.add((long) x.blanket(u));
            answers.add((long) x.bestWith(u, 0));
            answers.add((long) x.bestWith(u, 1));
            for (int v = 0; v < n; v++) {
                answers.add((long) x.separated(u, v));
                answers.add((long) x.independent(u, v));
            }
        }
        return answers;
    }

    /** What only changing calls can tell: every entry, and what is observed. */
    private static List<Long> contents(BayesFactors x) {
        List<Long> answers = new ArrayList<>();
        int n = x.variables();
        for (int v = 0; v < n; v++) {
            answers.add((long) x.observe(v, 2));
            int rows = 1 << Integer.bitCount(x.parentsOf(v));
            for (int row = 0; row < rows; row++) {
                answers.add((long) x.enter(v, row, 0, 0));
                answers.add((long) x.enter(v, row, 1, 0));
            }
        }
        return answers;
    }

    /** A network with parents and many different entries; observations are given as variable, value, ... */
    private static Network busy(int n, int... observations) {
        return () -> {
            BayesFactors x = new BayesFactors(n);
            for (int v = 0; v < n; v++) {
                x.parents(v, PARENTS[v]);
                for (int row = 0; row < rowsOf(v); row++) {
                    x.enter(v, row, 0, entryOf(v, row, 0));
                    x.enter(v, row, 1, entryOf(v, row, 1));
                }
            }
            for (int i = 0; i < observations.length; i += 2) {
                x.observe(observations[i], observations[i + 1]);
            }
            return x;
        };
    }

    private static int rowsOf(int v) {
        return 1 << Integer.bitCount(PARENTS[v]);
    }

    /** Never 0, so that no entry hides another one from the sums. */
    private static int entryOf(int v, int row, int own) {
        return 1 + (5 * v + 3 * row + 2 * own + row * own) % 9;
    }

    private static int weightByHand(int n, int number) {
        int weight = 1;
        for (int v = 0; v < n; v++) {
            String row = "";
            for (int p = 0; p < v; p++) {
                if ((PARENTS[v] & 1 << p) != 0) {
                    row = ((number & 1 << p) != 0 ? "1" : "0") + row;
                }
            }
            weight *= entryOf(v, row.isEmpty() ? 0 : Integer.parseInt(row, 2), (number & 1 << v) != 0 ? 1 : 0);
        }
        return weight;
    }

    private static long sumByHand(int n, int fixed, int ones) {
        long sum = 0;
        for (int number = 0; number < 1 << n; number++) {
            sum += (number & fixed) == ones ? weightByHand(n, number) : 0;
        }
        return sum;
    }

    private static int greatestByHand(int n, int fixed, int ones) {
        int greatest = 0;
        for (int number = 0; number < 1 << n; number++) {
            greatest = Math.max(greatest, (number & fixed) == ones ? weightByHand(n, number) : 0);
        }
        return greatest;
    }

    /** The nearest ones on both sides, the farthest, and those that shifts and products bring back among the good. */
    private static int[] notGood(int n) {
        return new int[] {LEAST, LEAST + 1, -32, -2, -1, n, n + 1, 7, 31, 32, 31 + n, 1 << 28, GREATEST};
    }
}
