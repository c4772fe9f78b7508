import java.util.ArrayList;
import java.util.List;
import java.util.function.Consumer;
import java.util.function.Supplier;

/**
 * The boundary cases: for each sentence of the document that names one, a test of its own.
 * No object gets more than the 512 calls that the document promises anything about.
 */
public final class BoundaryTests {
    private static final int BAD_TARGET = -2;
    private static final int FULL = -3;
    private static final int BAD_NODE = -5;
    private static final int LEAF = -6;
    private static final int EMPTY = -7;

    private static final int MIN = Integer.MIN_VALUE;
    private static final int MAX = Integer.MAX_VALUE;

    private static final int[] BAD_TARGETS = {-51, 51, -52, 52, 100, 206, 256, -206, MIN, MIN + 50, MAX, MAX - 50};

    private static String sentence = "";
    private static int sentences = 0;
    private static int wrong = 0;

    public static void main(String[] args) {
        about("What it is: at most 512 calls", BoundaryTests::the512thCall);

        about("Terms: at most 24 rows", BoundaryTests::all24RowsCount);
        about("Terms: three features, 0 to 2", BoundaryTests::firstAndLastFeature);
        about("Terms: features are numbers 0 to 7", BoundaryTests::leastAndGreatestFeatureValue);
        about("Terms: a target, -50 to 50", BoundaryTests::leastAndGreatestTarget);
        about("Terms: at most four trees, each on what the ones before it left over", BoundaryTests::fourTrees);
        about("Terms: the rest is all of the target before the first tree", BoundaryTests::restBeforeTheFirstTree);
        about("Terms: the rest is by all trees trained so far", BoundaryTests::restByAllTrees);
        about("Terms: node 0 has all rows", BoundaryTests::nodeZeroHasAllRows);
        about("Terms: a bound is 0 to 6", BoundaryTests::leastAndGreatestBound);
        about("Terms: left rows are at most b, right rows the others", BoundaryTests::atTheBoundAndJustAbove);
        about("Terms: the gain is taken exactly: below 1", BoundaryTests::theLeastGain);
        about("Terms: the gain is taken exactly: nearly equal", BoundaryTests::nearlyEqualGains);
        about("Terms: the gain is taken exactly: great sums", BoundaryTests::theGreatestGain);
        about("Terms: left has at least the leaf size", BoundaryTests::leafSizeOnTheLeft);
        about("Terms: right has at least the leaf size", BoundaryTests::leafSizeOnTheRight);
        about("Terms: the allowed split with the greatest gain", BoundaryTests::onlyAllowedSplitsCompete);
        about("Terms: a split needs a gain above 0", BoundaryTests::gainOfZero);
        about("Terms: of equal gains the smaller feature", BoundaryTests::equalGainsOfFeatures);
        about("Terms: of equal gains then the smaller bound", BoundaryTests::equalGainsOfBounds);
        about("Terms: parts are nodes 2i + 1 and 2i + 2", BoundaryTests::placesOfParts);
        about("Terms: nodes that are not split are leaves", BoundaryTests::unsplitNodesAreLeaves);
        about("Terms: nodes 3 to 6 are leaves", BoundaryTests::lowestNodesAreLeaves);
        about("Terms: nodes that never came to be are empty", BoundaryTests::missingNodesAreEmpty);
        about("Terms: a leaf's value is rounded towards 0", BoundaryTests::valuesRoundTowardsZero);
        about("Terms: without rows node 0 is a leaf of value 0", BoundaryTests::treeWithoutRows);
        about("Terms: the calls below change nothing", BoundaryTests::queriesChangeNothing);
        about("Terms: tree not among those trained: BAD_NODE", BoundaryTests::noSuchTree);
        about("Terms: node not in 0 to 6: BAD_NODE", BoundaryTests::noSuchNode);

        about("Promise 1: below 1 becomes 1", BoundaryTests::leafSizeBelowOne);
        about("Promise 1: above 12 becomes 12", BoundaryTests::leafSizeAboveTwelve);
        about("Promise 1: 1 to 12 stay", BoundaryTests::leafSizesBetween);
        about("Promise 1: no rows", BoundaryTests::newObjectHasNoRows);
        about("Promise 1: no trees", BoundaryTests::newObjectHasNoTrees);

        about("Promise 2: features & 7, (features >> 3) & 7, (features >> 6) & 7", BoundaryTests::rowIgnoresHigherBits);
        about("Promise 2: target not in -50 to 50: BAD_TARGET", BoundaryTests::rowWithBadTarget);
        about("Promise 2: nothing changes after BAD_TARGET", BoundaryTests::rowWithBadTargetChangesNothing);
        about("Promise 2: there are 24: FULL", BoundaryTests::rowWhenFull);
        about("Promise 2: nothing changes after FULL", BoundaryTests::rowWhenFullChangesNothing);
        about("Promise 2: answers how many rows there are", BoundaryTests::rowCounts);
        about("Promise 2: trees stay as they are", BoundaryTests::rowLeavesTreesAlone);
        about("Promise 2: the row's prediction is theirs", BoundaryTests::lateRowIsPredicted);

        about("Promise 3: there is no row i: BAD_NODE", BoundaryTests::retargetWithoutRow);
        about("Promise 3: nothing changes after BAD_NODE", BoundaryTests::retargetWithoutRowChangesNothing);
        about("Promise 3: target not in -50 to 50: BAD_TARGET", BoundaryTests::retargetWithBadTarget);
        about("Promise 3: nothing changes after BAD_TARGET", BoundaryTests::retargetWithBadTargetChangesNothing);
        about("Promise 3: answers the old target", BoundaryTests::retargetAnswersTheOld);
        about("Promise 3: gives row i another target", BoundaryTests::retargetChangesOneRow);

        about("Promise 4: there are four: FULL", BoundaryTests::fifthTree);
        about("Promise 4: nothing changes after FULL", BoundaryTests::fifthTreeChangesNothing);
        about("Promise 4: answers how many leaves", BoundaryTests::oneToFourLeaves);

        about("Promise 5: there is no tree: EMPTY", BoundaryTests::dropWithoutTree);
        about("Promise 5: drops the last tree", BoundaryTests::dropLeavesEarlierTrees);
        about("Promise 5: answers how many are left", BoundaryTests::dropCounts);

        about("Promise 6: clear of an empty object", BoundaryTests::clearOfNothing);
        about("Promise 6: clear of a full object", BoundaryTests::clearOfAFullObject);
        about("Promise 6: clear drops no more than rows and trees", BoundaryTests::clearKeepsTheLeafSize);

        about("Promise 7: the sum over no trees", BoundaryTests::predictWithoutTrees);
        about("Promise 7: the sum over all trees", BoundaryTests::predictWithFourTrees);
        about("Promise 7: features given as in row", BoundaryTests::predictIgnoresHigherBits);

        about("Promise 8: 0 if there is no row i", BoundaryTests::restWithoutRow);
        about("Promise 8: the rest of the first and the last row", BoundaryTests::restOfFirstAndLastRow);

        about("Promise 9: the sum over no rows", BoundaryTests::lossWithoutRows);
        about("Promise 9: the sum over all rows", BoundaryTests::lossOf24Rows);

        about("Promise 10: feature answers BAD_NODE", () -> badNodes(HistogramTree::feature, BAD_NODE));
        about("Promise 10: feature answers LEAF", () -> leaves(HistogramTree::feature, LEAF, LEAF));
        about("Promise 10: feature answers EMPTY", () -> empties(HistogramTree::feature, EMPTY));
        about("Promise 11: bound answers BAD_NODE", () -> badNodes(HistogramTree::bound, BAD_NODE));
        about("Promise 11: bound answers LEAF", () -> leaves(HistogramTree::bound, LEAF, LEAF));
        about("Promise 11: bound answers EMPTY", () -> empties(HistogramTree::bound, EMPTY));
        about("Promise 12: value is 0 if the node is split", BoundaryTests::valueOfASplit);
        about("Promise 12: value is 0 if the node is empty", () -> empties(HistogramTree::value, 0));
        about("Promise 12: the value of a leaf", () -> leaves(HistogramTree::value, 50, -30));
        about("Promise 13: rows answers BAD_NODE", () -> badNodes(HistogramTree::rows, BAD_NODE));
        about("Promise 13: rows is 0 for empty nodes", () -> empties(HistogramTree::rows, 0));
        about("Promise 13: rows when its tree was trained", BoundaryTests::rowsWhenTrained);

        about("Promise 14: row: BAD_TARGET is tested before FULL", BoundaryTests::badTargetBeforeFull);
        about("Promise 14: retarget: BAD_NODE before BAD_TARGET", BoundaryTests::badNodeBeforeBadTarget);
        about("Promise 14: value is 0 for a tree that was not trained", BoundaryTests::valueWithoutTree);
        about("Promise 14: value is 0 for a node not in 0 to 6", BoundaryTests::valueWithoutNode);

        System.out.println(wrong == 0 ? sentences + " sentences hold" : wrong + " answers are not as due");
        if (wrong != 0) {
            System.exit(1);
        }
    }

    // How a test tells what is wrong

    private static void about(String words, Runnable test) {
        sentence = words;
        sentences++;
        try {
            test.run();
        } catch (RuntimeException thrown) {
            fault("a call threw " + thrown);
        }
    }

    private static void fault(String what) {
        wrong++;
        System.out.println("[" + sentence + "] " + what);
    }

    private static void due(String what, int got, int want) {
        if (got != want) {
            fault(what + " answered " + got + ", due is " + want);
        }
    }

    // Objects to test with

    private static int pack(int f0, int f1, int f2) {
        return f0 | f1 << 3 | f2 << 6;
    }

    private static void addRows(HistogramTree x, int count, int features, int target) {
        for (int i = 0; i < count; i++) {
            x.row(features, target);
        }
    }

    /** Rows 0 to 3 differ in features 0 and 1 and lead to nodes 3 to 6, a row each. */
    private static HistogramTree fourCorners(int leafSize) {
        HistogramTree x = new HistogramTree(leafSize);
        x.row(pack(0, 0, 0), -40);
        x.row(pack(0, 5, 0), -20);
        x.row(pack(4, 0, 0), 10);
        x.row(pack(4, 5, 0), 50);
        return x;
    }

    /** One tree: node 0 and node 1 are split, nodes 2, 3 and 4 are leaves, 5 and 6 are empty. */
    private static HistogramTree leftHeavy() {
        HistogramTree x = new HistogramTree(1);
        x.row(pack(0, 0, 1), -50);
        x.row(pack(0, 0, 6), -30);
        x.row(pack(7, 0, 1), 50);
        x.row(pack(7, 0, 6), 50);
        x.train();
        return x;
    }

    /** Some rows that no tree fits wholly, and as many trees as wanted. */
    private static HistogramTree grown(int rows, int trees) {
        HistogramTree x = new HistogramTree(2);
        for (int i = 0; i < rows; i++) {
            x.row(i * 197 & 511, i * 37 % 101 - 50);
        }
        for (int i = 0; i < trees; i++) {
            x.train();
        }
        return x;
    }

    // All that can be seen of an object

    private static List<String> look(HistogramTree x) {
        List<String> seen = new ArrayList<>();
        for (int i = -1; i <= 24; i++) {
            seen.add("rest(" + i + ") " + x.rest(i));
        }
        seen.add("loss() " + x.loss());
        for (int v = 0; v < 8; v++) {
            for (int features : new int[] {v, v << 3, v << 6, pack(v, v, v)}) {
                seen.add("predict(" + features + ") " + x.predict(features));
            }
        }
        for (int tree = 0; tree < 4; tree++) {
            for (int node = 0; node < 7; node++) {
                String at = "(" + tree + ", " + node + ") ";
                seen.add("feature" + at + x.feature(tree, node));
                seen.add("bound" + at + x.bound(tree, node));
                seen.add("value" + at + x.value(tree, node));
                seen.add("rows" + at + x.rows(tree, node));
            }
        }
        return seen;
    }

    private static void dueLook(String what, HistogramTree got, HistogramTree want) {
        List<String> seen = look(got);
        List<String> wanted = look(want);
        for (int i = 0; i < seen.size(); i++) {
            if (!seen.get(i).equals(wanted.get(i))) {
                fault(what + ": " + seen.get(i) + ", due is " + wanted.get(i));
                return;
            }
        }
    }

    /** Two looks and what lies between them: some 350 calls. */
    private static void dueSame(String what, HistogramTree got, HistogramTree want) {
        dueLook(what, got, want);
        due(what + ", then row", got.row(pack(1, 6, 3), -9), want.row(pack(1, 6, 3), -9));
        due(what + ", then dropTree", got.dropTree(), want.dropTree());
        due(what + ", then train", got.train(), want.train());
        due(what + ", then train again", got.train(), want.train());
        dueLook(what + ", then row, dropTree and train", got, want);
    }

    /** The calls leave the object as if they had never been made. */
    private static void dueNoChange(String what, Supplier<HistogramTree> made, Consumer<HistogramTree> calls) {
        HistogramTree touched = made.get();
        calls.accept(touched);
        dueSame(what, touched, made.get());
    }

    // What it is

    private static void the512thCall() {
        HistogramTree x = fourCorners(1);
        for (int i = 0; i < 253; i++) {
            due("train after " + (4 + 2 * i) + " calls", x.train(), 4);
            due("dropTree after " + (5 + 2 * i) + " calls", x.dropTree(), 0);
        }
        due("train, the 511th call", x.train(), 4);
        due("predict, the 512th call", x.predict(pack(4, 5, 0)), 50);

        HistogramTree cleared = new HistogramTree(1);
        for (int i = 0; i < 170; i++) {
            cleared.clear();
            due("row after " + (3 * i + 1) + " calls", cleared.row(0, 5), 1);
            due("train after " + (3 * i + 2) + " calls", cleared.train(), 1);
        }
        due("rest, the 511th call", cleared.rest(0), 0);
        due("value, the 512th call", cleared.value(0, 0), 5);
    }

    // Terms

    private static void all24RowsCount() {
        HistogramTree x = new HistogramTree(1);
        addRows(x, 23, 0, 0);
        x.row(0, 48);
        due("loss", x.loss(), 48 * 48);
        due("train", x.train(), 1);
        due("rows(0, 0)", x.rows(0, 0), 24);
        due("value(0, 0)", x.value(0, 0), 2);
        due("rest(23)", x.rest(23), 46);
    }

    private static void firstAndLastFeature() {
        for (int f = 0; f < 3; f++) {
            HistogramTree x = new HistogramTree(1);
            x.row(2 << 3 * f, -7);
            x.row(3 << 3 * f, 9);
            due("feature " + f + ": train", x.train(), 2);
            due("feature " + f + ": feature(0, 0)", x.feature(0, 0), f);
            due("feature " + f + ": bound(0, 0)", x.bound(0, 0), 2);
        }
        HistogramTree fourth = new HistogramTree(1);
        fourth.row(2 << 9, -7);
        fourth.row(3 << 9, 9);
        due("there is no feature 3: train", fourth.train(), 1);
    }

    private static void leastAndGreatestFeatureValue() {
        for (int f = 0; f < 3; f++) {
            for (int v = 0; v < 7; v++) {
                HistogramTree x = new HistogramTree(1);
                x.row(v << 3 * f, -7);
                x.row(v + 1 << 3 * f, 9);
                String what = "feature " + f + ", values " + v + " and " + (v + 1);
                due(what + ": train", x.train(), 2);
                due(what + ": predict of the smaller", x.predict(v << 3 * f), -7);
                due(what + ": predict of the greater", x.predict(v + 1 << 3 * f), 9);
                due(what + ": predict of the least", x.predict(0), -7);
                due(what + ": predict of the greatest", x.predict(7 << 3 * f), 9);
            }
        }
    }

    private static void leastAndGreatestTarget() {
        HistogramTree x = new HistogramTree(1);
        due("row(0, -50)", x.row(0, -50), 1);
        due("row(7, 50)", x.row(7, 50), 2);
        due("rest(0)", x.rest(0), -50);
        due("rest(1)", x.rest(1), 50);
        due("train", x.train(), 2);
        due("value(0, 1)", x.value(0, 1), -50);
        due("value(0, 2)", x.value(0, 2), 50);
    }

    private static void fourTrees() {
        // Leaf size 12 keeps each tree to one leaf, its value the mean of what was left over.
        HistogramTree x = new HistogramTree(12);
        x.row(0, 50);
        x.row(0, 0);
        int[] targets = {50, -50, 20, -10};
        int[] values = {25, -50, 35, -15};
        for (int tree = 0; tree < 4; tree++) {
            x.retarget(0, targets[tree]);
            due("train " + tree, x.train(), 1);
            due("value(" + tree + ", 0)", x.value(tree, 0), values[tree]);
        }
        due("predict", x.predict(0), -5);
        due("train 4", x.train(), FULL);
        due("predict after all", x.predict(0), -5);
    }

    private static void restBeforeTheFirstTree() {
        HistogramTree x = new HistogramTree(1);
        for (int target = -50; target <= 50; target += 10) {
            x.row(target & 511, target);
        }
        for (int i = 0; i <= 10; i++) {
            due("rest(" + i + ")", x.rest(i), 10 * i - 50);
        }
        x.train();
        x.dropTree();
        for (int i = 0; i <= 10; i++) {
            due("with no tree again: rest(" + i + ")", x.rest(i), 10 * i - 50);
        }
    }

    private static void restByAllTrees() {
        HistogramTree x = fourCorners(2);
        int[][] rests = {{-40, -20, 10, 50}, {-10, 10, -20, 20}, {5, -5, -5, 5}};
        for (int trees = 0; trees < 3; trees++) {
            for (int i = 0; i < 4; i++) {
                due("with " + trees + " trees: rest(" + i + ")", x.rest(i), rests[trees][i]);
            }
            x.train();
        }
    }

    private static void nodeZeroHasAllRows() {
        for (int count = 0; count <= 24; count++) {
            HistogramTree x = grown(count, 4);
            for (int tree = 0; tree < 4; tree++) {
                due(count + " rows: rows(" + tree + ", 0)", x.rows(tree, 0), count);
            }
        }
    }

    private static void leastAndGreatestBound() {
        HistogramTree least = new HistogramTree(1);
        least.row(pack(0, 0, 0), -8);
        least.row(pack(1, 0, 0), 8);
        least.train();
        due("bound(0, 0)", least.bound(0, 0), 0);
        HistogramTree greatest = new HistogramTree(1);
        greatest.row(pack(6, 7, 7), -8);
        greatest.row(pack(7, 7, 7), 8);
        due("train", greatest.train(), 2);
        due("bound(0, 0)", greatest.bound(0, 0), 6);
        // No bound parts rows that are all at the least or all at the greatest value.
        HistogramTree none = new HistogramTree(1);
        none.row(pack(0, 7, 0), 50);
        none.row(pack(0, 7, 0), 48);
        due("all alike: train", none.train(), 1);
    }

    private static void atTheBoundAndJustAbove() {
        for (int b = 0; b <= 6; b++) {
            HistogramTree x = new HistogramTree(1);
            addRows(x, 3, pack(b, 0, 0), -8);
            addRows(x, 2, pack(b + 1, 0, 0), 8);
            x.train();
            due("bound(0, 0)", x.bound(0, 0), b);
            due("bound " + b + ": rows at the bound", x.rows(0, 1), 3);
            due("bound " + b + ": rows just above", x.rows(0, 2), 2);
            due("bound " + b + ": value at the bound", x.value(0, 1), -8);
            due("bound " + b + ": value just above", x.value(0, 2), 8);
            due("bound " + b + ": predict at the bound", x.predict(b), -8);
            due("bound " + b + ": predict just above", x.predict(b + 1), 8);
        }
    }

    private static void theLeastGain() {
        // 36/11 + 49/13 - 169/24 = 1/3432, the least gain above 0 that 24 rows can have.
        HistogramTree x = new HistogramTree(1);
        addRows(x, 6, pack(0, 0, 0), 1);
        addRows(x, 5, pack(0, 0, 0), 0);
        addRows(x, 7, pack(1, 0, 0), 1);
        addRows(x, 6, pack(1, 0, 0), 0);
        due("gain 1/3432: train", x.train(), 2);
        due("gain 1/3432: rows(0, 1)", x.rows(0, 1), 11);
        due("gain 1/3432: rows(0, 2)", x.rows(0, 2), 13);
        // 25/10 + 49/14 - 144/24 = 0 is the neighbour without a gain.
        HistogramTree y = new HistogramTree(1);
        addRows(y, 5, pack(0, 0, 0), 1);
        addRows(y, 5, pack(0, 0, 0), 0);
        addRows(y, 7, pack(1, 0, 0), 1);
        addRows(y, 7, pack(1, 0, 0), 0);
        due("gain 0: train", y.train(), 1);
    }

    /** 24 rows; one feature's split of 9 and 15 gains 38419.3361.., the other's of 7 and 17 gains 38419.3364.. */
    private static HistogramTree nearlyEqual(int shiftOfLess, int shiftOfMore) {
        HistogramTree x = new HistogramTree(1);
        addRows(x, 6, 0, 44);
        addRows(x, 1, 0, 45);
        addRows(x, 2, 1 << shiftOfMore, -4);
        addRows(x, 12, 1 << shiftOfMore | 1 << shiftOfLess, -49);
        addRows(x, 3, 1 << shiftOfMore | 1 << shiftOfLess, -50);
        return x;
    }

    private static void nearlyEqualGains() {
        HistogramTree later = nearlyEqual(0, 3);
        due("the greater gain comes later: train", later.train(), 3);
        due("the greater gain comes later: feature(0, 0)", later.feature(0, 0), 1);
        due("the greater gain comes later: rows(0, 1)", later.rows(0, 1), 7);
        due("the greater gain comes later: rows(0, 2)", later.rows(0, 2), 17);
        HistogramTree first = nearlyEqual(6, 3);
        due("the greater gain comes first: train", first.train(), 3);
        due("the greater gain comes first: feature(0, 0)", first.feature(0, 0), 1);
        due("the greater gain comes first: rows(0, 1)", first.rows(0, 1), 7);
    }

    private static void theGreatestGain() {
        // All 24 rests are 50 or -50; feature 2 parts them wholly, feature 0 all but one of each.
        HistogramTree x = new HistogramTree(1);
        addRows(x, 11, pack(0, 0, 0), 50);
        addRows(x, 1, pack(7, 0, 0), 50);
        addRows(x, 11, pack(7, 0, 7), -50);
        addRows(x, 1, pack(0, 0, 7), -50);
        due("train", x.train(), 2);
        due("feature(0, 0)", x.feature(0, 0), 2);
        due("value(0, 1)", x.value(0, 1), 50);
        due("value(0, 2)", x.value(0, 2), -50);
        // Each row gets the other's target: now all rests are 100 or -100.
        for (int i = 0; i < 24; i++) {
            x.retarget(i, i < 12 ? -50 : 50);
        }
        due("rests of 100: train", x.train(), 2);
        due("rests of 100: feature(1, 0)", x.feature(1, 0), 2);
        due("rests of 100: value(1, 1)", x.value(1, 1), -100);
        due("rests of 100: value(1, 2)", x.value(1, 2), 100);
    }

    private static int leavesOfTwoGroups(int leafSize, int left, int right) {
        HistogramTree x = new HistogramTree(leafSize);
        addRows(x, left, pack(2, 2, 2), -10);
        addRows(x, right, pack(3, 3, 3), 10);
        return x.train();
    }

    private static void leafSizeOnTheLeft() {
        for (int size = 1; size <= 12; size++) {
            due("leaf size " + size + ", one too few", leavesOfTwoGroups(size, size - 1, 12), 1);
            due("leaf size " + size + ", just enough", leavesOfTwoGroups(size, size, 12), 2);
        }
    }

    private static void leafSizeOnTheRight() {
        for (int size = 1; size <= 12; size++) {
            due("leaf size " + size + ", one too few", leavesOfTwoGroups(size, 12, size - 1), 1);
            due("leaf size " + size + ", just enough", leavesOfTwoGroups(size, 12, size), 2);
        }
    }

    private static void onlyAllowedSplitsCompete() {
        // Bound 0 and bound 2 gain more than bound 1, but leave one row on a side.
        HistogramTree x = new HistogramTree(2);
        x.row(pack(0, 0, 0), 50);
        x.row(pack(1, 0, 0), 0);
        x.row(pack(2, 0, 0), 1);
        x.row(pack(3, 0, 0), 45);
        due("train", x.train(), 2);
        due("bound(0, 0)", x.bound(0, 0), 1);
        due("rows(0, 1)", x.rows(0, 1), 2);
        due("value(0, 2)", x.value(0, 2), 23);
        // The leaf size holds in nodes 1 and 2 as well: three rows can't be parted by two.
        HistogramTree y = new HistogramTree(2);
        addRows(y, 1, pack(0, 0, 0), -50);
        addRows(y, 2, pack(0, 1, 0), -40);
        addRows(y, 2, pack(7, 0, 0), 40);
        addRows(y, 2, pack(7, 1, 0), 50);
        due("node 1 of three rows: train", y.train(), 3);
        due("node 1 of three rows: feature(0, 1)", y.feature(0, 1), LEAF);
        due("node 2 of four rows: feature(0, 2)", y.feature(0, 2), 1);
    }

    private static void gainOfZero() {
        HistogramTree alike = new HistogramTree(1);
        alike.row(pack(0, 1, 2), 7);
        alike.row(pack(3, 4, 5), 7);
        due("equal rests: train", alike.train(), 1);
        due("equal rests: feature(0, 0)", alike.feature(0, 0), LEAF);
        HistogramTree zero = new HistogramTree(1);
        zero.row(pack(0, 1, 2), 0);
        zero.row(pack(3, 4, 5), 0);
        due("rests of 0: train", zero.train(), 1);
        // Each feature alone parts the rows into two of equal means.
        HistogramTree crossed = new HistogramTree(1);
        crossed.row(pack(0, 0, 0), 5);
        crossed.row(pack(0, 1, 0), -5);
        crossed.row(pack(1, 0, 0), -5);
        crossed.row(pack(1, 1, 0), 5);
        due("equal means: train", crossed.train(), 1);
        // Node 1 and node 2 have gain 0, node 0 has not.
        HistogramTree below = new HistogramTree(1);
        below.row(pack(0, 0, 0), 1);
        below.row(pack(0, 1, 0), 1);
        below.row(pack(1, 0, 0), 2);
        below.row(pack(1, 1, 0), 2);
        due("equal rests below node 0: train", below.train(), 2);
        due("equal rests below node 0: feature(0, 1)", below.feature(0, 1), LEAF);
        due("equal rests below node 0: feature(0, 2)", below.feature(0, 2), LEAF);
    }

    private static void equalGainsOfFeatures() {
        HistogramTree first = new HistogramTree(1);
        first.row(pack(6, 0, 0), -3);
        first.row(pack(7, 7, 7), 3);
        first.train();
        due("feature 0 though its bound is greater: feature", first.feature(0, 0), 0);
        due("feature 0 though its bound is greater: bound", first.bound(0, 0), 6);
        HistogramTree second = new HistogramTree(1);
        second.row(pack(4, 5, 0), -3);
        second.row(pack(4, 6, 7), 3);
        second.train();
        due("feature 1 though its bound is greater: feature", second.feature(0, 0), 1);
        due("feature 1 though its bound is greater: bound", second.bound(0, 0), 5);
        // 9/3 + 9/6 = 4/1 + 4/8: equal gains of three rows against six and of one against eight.
        for (int shift = 0; shift <= 3; shift += 3) {
            HistogramTree x = new HistogramTree(1);
            int three = 1 << shift;
            int one = 1 << 3 - shift;
            addRows(x, 3, one, 1);
            addRows(x, 1, three, 2);
            addRows(x, 5, one | three, -1);
            x.train();
            due("equal gains of unlike parts: feature", x.feature(0, 0), 0);
            due("equal gains of unlike parts: rows", x.rows(0, 1), shift == 0 ? 3 : 1);
        }
    }

    private static void equalGainsOfBounds() {
        HistogramTree alike = new HistogramTree(1);
        alike.row(pack(1, 0, 0), -3);
        alike.row(pack(6, 0, 0), 3);
        alike.train();
        due("bounds 1 to 5 part alike: bound", alike.bound(0, 0), 1);
        // Bounds 1 to 2 and 3 to 4 each part one row of 6 from two rows with the sum 6.
        HistogramTree unlike = new HistogramTree(1);
        unlike.row(pack(1, 0, 0), 6);
        unlike.row(pack(3, 0, 0), 0);
        unlike.row(pack(5, 0, 0), 6);
        unlike.train();
        due("bounds 1 to 4 gain alike: bound(0, 0)", unlike.bound(0, 0), 1);
        due("bounds 3 to 4 gain alike: bound(0, 2)", unlike.bound(0, 2), 3);
        // A greater gain at a greater bound still wins.
        HistogramTree later = new HistogramTree(1);
        later.row(pack(1, 0, 0), 0);
        later.row(pack(3, 0, 0), 1);
        later.row(pack(5, 0, 0), 9);
        later.train();
        due("bound 3 gains more: bound(0, 0)", later.bound(0, 0), 3);
    }

    private static void placesOfParts() {
        HistogramTree x = fourCorners(1);
        x.train();
        int[] values = {0, 0, 0, -40, -20, 10, 50};
        int[] rows = {4, 2, 2, 1, 1, 1, 1};
        for (int node = 0; node < 7; node++) {
            due("value(0, " + node + ")", x.value(0, node), values[node]);
            due("rows(0, " + node + ")", x.rows(0, node), rows[node]);
        }
        due("predict by node 3", x.predict(pack(0, 0, 0)), -40);
        due("predict by node 4", x.predict(pack(0, 5, 0)), -20);
        due("predict by node 5", x.predict(pack(4, 0, 0)), 10);
        due("predict by node 6", x.predict(pack(4, 5, 0)), 50);
    }

    private static void unsplitNodesAreLeaves() {
        HistogramTree lone = new HistogramTree(1);
        lone.row(0, 9);
        lone.train();
        due("one row: feature(0, 0)", lone.feature(0, 0), LEAF);
        due("one row: bound(0, 0)", lone.bound(0, 0), LEAF);
        due("one row: value(0, 0)", lone.value(0, 0), 9);
        due("one row: predict", lone.predict(511), 9);
        HistogramTree x = leftHeavy();
        due("feature(0, 2)", x.feature(0, 2), LEAF);
        due("value(0, 2)", x.value(0, 2), 50);
        due("predict by node 2", x.predict(pack(7, 0, 0)), 50);
    }

    private static void lowestNodesAreLeaves() {
        // Every part of two rows could be split again with a gain.
        HistogramTree x = new HistogramTree(1);
        for (int v = 0; v < 8; v++) {
            x.row(pack(v, 0, 0), 10 * v - 30);
        }
        due("train", x.train(), 4);
        int[] values = {-25, -5, 15, 35};
        for (int node = 3; node <= 6; node++) {
            due("feature(0, " + node + ")", x.feature(0, node), LEAF);
            due("bound(0, " + node + ")", x.bound(0, node), LEAF);
            due("rows(0, " + node + ")", x.rows(0, node), 2);
            due("value(0, " + node + ")", x.value(0, node), values[node - 3]);
        }
    }

    private static void missingNodesAreEmpty() {
        HistogramTree x = leftHeavy();
        due("no parts of leaf 2: feature(0, 5)", x.feature(0, 5), EMPTY);
        due("no parts of leaf 2: feature(0, 6)", x.feature(0, 6), EMPTY);
        // The four corners' tree has all nodes: nothing of it may show in what follows it.
        HistogramTree y = fourCorners(1);
        y.train();
        y.dropTree();
        for (int i = 0; i < 4; i++) {
            y.retarget(i, 8);
        }
        y.train();
        for (int node = 1; node <= 6; node++) {
            due("after a dropped tree: feature(0, " + node + ")", y.feature(0, node), EMPTY);
            due("after a dropped tree: bound(0, " + node + ")", y.bound(0, node), EMPTY);
            due("after a dropped tree: value(0, " + node + ")", y.value(0, node), 0);
            due("after a dropped tree: rows(0, " + node + ")", y.rows(0, node), 0);
        }
    }

    private static void dueMean(int first, int second, int third, int want) {
        HistogramTree x = new HistogramTree(1);
        x.row(0, first);
        x.row(0, second);
        x.row(0, third);
        x.train();
        due("mean of " + first + ", " + second + ", " + third, x.value(0, 0), want);
        due("predict by it", x.predict(0), want);
    }

    private static void valuesRoundTowardsZero() {
        dueMean(0, 0, 1, 0);
        dueMean(0, 1, 1, 0);
        dueMean(1, 1, 1, 1);
        dueMean(0, 0, -1, 0);
        dueMean(0, -1, -1, 0);
        dueMean(-1, -1, -1, -1);
        dueMean(50, 50, 49, 49);
        dueMean(-50, -50, -49, -49);
        dueMean(-50, -50, -50, -50);
        dueMean(-50, 50, 2, 0);
        dueMean(50, -50, -5, -1);
    }

    private static void treeWithoutRows() {
        HistogramTree x = new HistogramTree(1);
        for (int tree = 0; tree < 4; tree++) {
            due("train", x.train(), 1);
            due("feature(" + tree + ", 0)", x.feature(tree, 0), LEAF);
            due("bound(" + tree + ", 0)", x.bound(tree, 0), LEAF);
            due("value(" + tree + ", 0)", x.value(tree, 0), 0);
            due("rows(" + tree + ", 0)", x.rows(tree, 0), 0);
            due("feature(" + tree + ", 1)", x.feature(tree, 1), EMPTY);
        }
        due("predict", x.predict(511), 0);
        due("row", x.row(0, 33), 1);
        due("rest", x.rest(0), 33);
    }

    /** What is known of the object beforehand, so that no query has a hand in what is due. */
    private static void dueLeftHeavy(String what, HistogramTree x) {
        int[] features = {0, 2, LEAF, LEAF, LEAF, EMPTY, EMPTY};
        int[] bounds = {0, 1, LEAF, LEAF, LEAF, EMPTY, EMPTY};
        int[] values = {0, 0, 50, -50, -30, 0, 0};
        int[] rows = {4, 2, 2, 1, 1, 0, 0};
        for (int node = 0; node < 7; node++) {
            String at = "(0, " + node + ")";
            due(what + ", then feature" + at, x.feature(0, node), features[node]);
            due(what + ", then bound" + at, x.bound(0, node), bounds[node]);
            due(what + ", then value" + at, x.value(0, node), values[node]);
            due(what + ", then rows" + at, x.rows(0, node), rows[node]);
        }
        int[] targets = {-50, -30, 50, 50};
        for (int i = 0; i < 4; i++) {
            due(what + ", then retarget(" + i + ", 1)", x.retarget(i, 1), targets[i]);
        }
        due(what + ", then row", x.row(0, 0), 5);
        due(what + ", then dropTree", x.dropTree(), 0);
        due(what + ", then dropTree again", x.dropTree(), EMPTY);
    }

    private static void dueQueryChangesNothing(String what, Consumer<HistogramTree> calls) {
        HistogramTree x = leftHeavy();
        calls.accept(x);
        dueLeftHeavy(what, x);
        dueNoChange(what, () -> grown(20, 3), calls);
    }

    private static void queriesChangeNothing() {
        int[] numbers = {MIN, -1, 0, 1, 3, 4, 6, 7, 24, MAX};
        dueQueryChangesNothing("predict", x -> { for (int a : numbers) x.predict(a); });
        dueQueryChangesNothing("rest", x -> { for (int a : numbers) x.rest(a); });
        dueQueryChangesNothing("loss", x -> { for (int a : numbers) x.loss(); });
        dueQueryChangesNothing("feature", x -> askAll(x, HistogramTree::feature, numbers));
        dueQueryChangesNothing("bound", x -> askAll(x, HistogramTree::bound, numbers));
        dueQueryChangesNothing("value", x -> askAll(x, HistogramTree::value, numbers));
        dueQueryChangesNothing("rows", x -> askAll(x, HistogramTree::rows, numbers));
    }

    private static void askAll(HistogramTree x, NodeQuery query, int[] numbers) {
        for (int tree : numbers) {
            for (int node : numbers) {
                query.ask(x, tree, node);
            }
        }
    }

    private interface NodeQuery {
        int ask(HistogramTree x, int tree, int node);
    }

    private static void dueNoNode(HistogramTree x, int tree, int node) {
        String at = "(" + tree + ", " + node + ")";
        due("feature" + at, x.feature(tree, node), BAD_NODE);
        due("bound" + at, x.bound(tree, node), BAD_NODE);
        due("rows" + at, x.rows(tree, node), BAD_NODE);
    }

    private static void noSuchTree() {
        for (int trained = 0; trained <= 4; trained++) {
            HistogramTree x = grown(20, trained);
            // 613566757 * 7 wraps round to 3, the place of a node that there may be.
            for (int tree : new int[] {MIN, -7, -1, trained, trained + 1, 4, 5, 28, 613566757, MAX}) {
                dueNoNode(x, tree, 0);
                dueNoNode(x, tree, 6);
            }
            for (int tree = 0; tree < trained; tree++) {
                due("a trained one: rows(" + tree + ", 0)", x.rows(tree, 0), 20);
            }
        }
        HistogramTree dropped = grown(20, 4);
        dropped.dropTree();
        dueNoNode(dropped, 3, 0);
        due("not dropped: rows(2, 0)", dropped.rows(2, 0), 20);
        dropped.clear();
        dueNoNode(dropped, 0, 0);
    }

    private static void noSuchNode() {
        HistogramTree x = grown(20, 4);
        for (int tree = 0; tree < 4; tree++) {
            for (int node : new int[] {MIN, -14, -7, -1, 7, 8, 14, 21, MAX}) {
                dueNoNode(x, tree, node);
            }
            due("the first node: rows", x.rows(tree, 0), 20);
        }
        HistogramTree y = fourCorners(1);
        y.train();
        due("the last node: feature(0, 6)", y.feature(0, 6), LEAF);
        due("the last node: rows(0, 6)", y.rows(0, 6), 1);
    }

    // Promise 1

    private static HistogramTree grownWithLeafSize(int leafSize) {
        HistogramTree x = new HistogramTree(leafSize);
        for (int i = 0; i < 23; i++) {
            x.row(i * 197 & 511, i * 37 % 101 - 50);
        }
        x.train();
        x.train();
        return x;
    }

    private static void leafSizeBelowOne() {
        for (int size : new int[] {0, -1, -2, -12, -13, -24, -255, MIN, MIN + 1}) {
            due("leaf size " + size + ", 1 row and 1 row", leavesOfTwoGroups(size, 1, 1), 2);
            due("leaf size " + size + ", 0 rows and 1 row", leavesOfTwoGroups(size, 0, 1), 1);
            due("leaf size " + size + ", 1 row and 0 rows", leavesOfTwoGroups(size, 1, 0), 1);
            due("leaf size " + size + ", no rows", leavesOfTwoGroups(size, 0, 0), 1);
            dueSame("leaf size " + size, grownWithLeafSize(size), grownWithLeafSize(1));
        }
    }

    private static void leafSizeAboveTwelve() {
        for (int size : new int[] {13, 14, 24, 25, 255, 256, 257, MAX - 1, MAX}) {
            due("leaf size " + size + ", 12 rows and 12", leavesOfTwoGroups(size, 12, 12), 2);
            due("leaf size " + size + ", 11 rows and 13", leavesOfTwoGroups(size, 11, 13), 1);
            due("leaf size " + size + ", 13 rows and 11", leavesOfTwoGroups(size, 13, 11), 1);
            dueSame("leaf size " + size, grownWithLeafSize(size), grownWithLeafSize(12));
        }
    }

    private static void leafSizesBetween() {
        for (int size = 1; size <= 12; size++) {
            due("leaf size " + size + ", just enough", leavesOfTwoGroups(size, size, size), 2);
            due("leaf size " + size + ", one too few left", leavesOfTwoGroups(size, size - 1, size), 1);
            due("leaf size " + size + ", one too few right", leavesOfTwoGroups(size, size, size - 1), 1);
        }
    }

    private static void newObjectHasNoRows() {
        HistogramTree x = new HistogramTree(1);
        due("loss", x.loss(), 0);
        for (int i = -1; i <= 24; i++) {
            due("rest(" + i + ")", x.rest(i), 0);
            due("retarget(" + i + ", 1)", x.retarget(i, 1), BAD_NODE);
        }
        due("the first row", x.row(0, 1), 1);
        HistogramTree y = new HistogramTree(1);
        y.train();
        due("rows of a tree", y.rows(0, 0), 0);
    }

    private static void newObjectHasNoTrees() {
        HistogramTree x = new HistogramTree(1);
        for (int v = 0; v < 512; v += 73) {
            due("predict(" + v + ")", x.predict(v), 0);
        }
        for (int tree = 0; tree < 4; tree++) {
            for (int node = 0; node < 7; node++) {
                dueNoNode(x, tree, node);
                due("value(" + tree + ", " + node + ")", x.value(tree, node), 0);
            }
        }
        due("dropTree", x.dropTree(), EMPTY);
        for (int tree = 0; tree < 4; tree++) {
            due("train " + tree, x.train(), 1);
        }
        due("train 4", x.train(), FULL);
    }

    // Promise 2

    private static void rowIgnoresHigherBits() {
        for (int high : new int[] {1 << 9, 1 << 10, 1 << 30, MIN, 0x7ffffe00, 0xfffffe00}) {
            HistogramTree x = new HistogramTree(1);
            HistogramTree plain = new HistogramTree(1);
            for (int i = 0; i < 12; i++) {
                int features = i * 197 & 511;
                due("row", x.row(features | high, 9 * i - 50), i + 1);
                plain.row(features, 9 * i - 50);
            }
            due("higher bits " + high + ": train", x.train(), plain.train());
            dueSame("higher bits " + high, x, plain);
        }
        HistogramTree x = new HistogramTree(1);
        x.row(-1, -6);
        x.row(pack(7, 7, 7), 8);
        due("-1 is 7, 7, 7: train", x.train(), 1);
    }

    private static void rowWithBadTarget() {
        HistogramTree x = new HistogramTree(1);
        for (int target : BAD_TARGETS) {
            due("row(0, " + target + ")", x.row(0, target), BAD_TARGET);
        }
        for (int target = -50; target <= 50; target++) {
            x.clear();
            due("row(0, " + target + ")", x.row(0, target), 1);
        }
    }

    private static void rowWithBadTargetChangesNothing() {
        for (int rows : new int[] {0, 1, 22}) {
            for (int target : BAD_TARGETS) {
                dueNoChange(rows + " rows, row(77, " + target + ")", () -> grown(rows, 2), x -> x.row(77, target));
            }
        }
    }

    private static void rowWhenFull() {
        HistogramTree x = grown(23, 0);
        due("the 24th row", x.row(0, 1), 24);
        for (int target : new int[] {-50, -1, 0, 1, 50}) {
            due("row(0, " + target + ")", x.row(0, target), FULL);
            due("row(-1, " + target + ")", x.row(-1, target), FULL);
        }
        x.clear();
        due("after clear", x.row(0, 1), 1);
    }

    private static void rowWhenFullChangesNothing() {
        for (int trees = 0; trees <= 4; trees++) {
            int count = trees;
            dueNoChange(trees + " trees, row(77, 50)", () -> grown(24, count), x -> x.row(77, 50));
            dueNoChange(trees + " trees, row(-1, -50)", () -> grown(24, count), x -> x.row(-1, -50));
        }
    }

    private static void rowCounts() {
        HistogramTree x = new HistogramTree(1);
        for (int i = 1; i <= 24; i++) {
            due("a refused row", x.row(0, 51), BAD_TARGET);
            due("row " + i, x.row(5, i), i);
        }
        for (int i = 0; i < 24; i++) {
            due("rest(" + i + ")", x.rest(i), i + 1);
        }
    }

    private static void rowLeavesTreesAlone() {
        HistogramTree x = fourCorners(1);
        x.train();
        HistogramTree y = fourCorners(1);
        y.train();
        addRows(x, 20, pack(0, 0, 7), 50);
        for (int node = 0; node < 7; node++) {
            due("feature(0, " + node + ")", x.feature(0, node), y.feature(0, node));
            due("bound(0, " + node + ")", x.bound(0, node), y.bound(0, node));
            due("value(0, " + node + ")", x.value(0, node), y.value(0, node));
            due("rows(0, " + node + ")", x.rows(0, node), y.rows(0, node));
        }
        due("dropTree", x.dropTree(), 0);
    }

    private static void lateRowIsPredicted() {
        HistogramTree x = fourCorners(1);
        x.train();
        due("row", x.row(pack(7, 7, 7), 20), 5);
        due("rest of a row in node 6", x.rest(4), 20 - 50);
        due("row", x.row(pack(0, 0, 7), -40), 6);
        due("rest of a row in node 3", x.rest(5), 0);
        due("loss", x.loss(), 900);
        due("train on what is left over", x.train(), 2);
        due("value of the late row's leaf", x.value(1, 2), -30);
        due("dropTree", x.dropTree(), 1);
        due("dropTree", x.dropTree(), 0);
        due("rest without trees", x.rest(4), 20);
    }

    // Promise 3

    private static void retargetWithoutRow() {
        for (int rows : new int[] {0, 1, 4, 23, 24}) {
            HistogramTree x = grown(rows, 1);
            for (int i : new int[] {MIN, -24, -1, rows, rows + 1, 24, 25, MAX}) {
                due(rows + " rows: retarget(" + i + ", 0)", x.retarget(i, 0), BAD_NODE);
            }
        }
        HistogramTree x = grown(24, 1);
        x.clear();
        due("after clear: retarget(0, 0)", x.retarget(0, 0), BAD_NODE);
        x.row(0, 3);
        due("after clear and row: retarget(0, 0)", x.retarget(0, 0), 3);
        due("after clear and row: retarget(1, 0)", x.retarget(1, 0), BAD_NODE);
    }

    private static void retargetWithoutRowChangesNothing() {
        for (int rows : new int[] {0, 1, 20, 24}) {
            for (int i : new int[] {MIN, -1, rows, 24, MAX}) {
                dueNoChange(rows + " rows: retarget(" + i + ", 11)", () -> grown(rows, 2), x -> x.retarget(i, 11));
            }
        }
    }

    private static void retargetWithBadTarget() {
        HistogramTree x = grown(24, 1);
        for (int target : BAD_TARGETS) {
            due("retarget(0, " + target + ")", x.retarget(0, target), BAD_TARGET);
            due("retarget(23, " + target + ")", x.retarget(23, target), BAD_TARGET);
        }
    }

    private static void retargetWithBadTargetChangesNothing() {
        for (int target : BAD_TARGETS) {
            dueNoChange("retarget(0, " + target + ")", () -> grown(24, 2), x -> x.retarget(0, target));
            dueNoChange("retarget(23, " + target + ")", () -> grown(24, 2), x -> x.retarget(23, target));
        }
    }

    private static void retargetAnswersTheOld() {
        HistogramTree x = new HistogramTree(1);
        addRows(x, 24, 0, 50);
        for (int i : new int[] {0, 23}) {
            due("retarget(" + i + ", -50)", x.retarget(i, -50), 50);
            due("retarget(" + i + ", -50) again", x.retarget(i, -50), -50);
            due("retarget(" + i + ", 50)", x.retarget(i, 50), -50);
            due("retarget(" + i + ", 51)", x.retarget(i, 51), BAD_TARGET);
            due("retarget(" + i + ", -2) after a refused one", x.retarget(i, -2), 50);
            due("retarget(" + i + ", 0)", x.retarget(i, 0), -2);
        }
        x.train();
        due("the target, not the rest", x.retarget(1, 0), 50);
    }

    private static void retargetChangesOneRow() {
        for (int i : new int[] {0, 1, 22, 23}) {
            HistogramTree x = new HistogramTree(12);
            addRows(x, 24, 0, 10);
            x.train();
            x.retarget(i, -50);
            for (int k = 0; k < 24; k++) {
                due("after retarget(" + i + ", -50): rest(" + k + ")", x.rest(k), k == i ? -60 : 0);
            }
            due("the tree stays: value(0, 0)", x.value(0, 0), 10);
        }
    }

    // Promise 4

    private static void fifthTree() {
        for (int rows : new int[] {0, 1, 24}) {
            HistogramTree x = grown(rows, 3);
            due(rows + " rows: the fourth is no FULL", x.train() >= 1 ? 1 : 0, 1);
            due(rows + " rows: the fifth", x.train(), FULL);
            due(rows + " rows: the fifth again", x.train(), FULL);
            due(rows + " rows: dropTree", x.dropTree(), 3);
            due(rows + " rows: a fourth again", x.train() >= 1 ? 1 : 0, 1);
            due(rows + " rows: a fifth again", x.train(), FULL);
        }
    }

    private static void fifthTreeChangesNothing() {
        for (int rows : new int[] {0, 1, 23, 24}) {
            dueNoChange(rows + " rows: train", () -> grown(rows, 4), HistogramTree::train);
        }
        // What a fifth tree would be trained on differs from what the fourth was.
        Supplier<HistogramTree> retargeted = () -> {
            HistogramTree x = grown(22, 4);
            x.retarget(0, 50);
            x.retarget(1, 49);
            x.row(5, -50);
            return x;
        };
        dueNoChange("after retarget and row: train", retargeted, HistogramTree::train);
    }

    private static void oneToFourLeaves() {
        due("no rows", new HistogramTree(1).train(), 1);
        due("two groups", leavesOfTwoGroups(1, 1, 1), 2);
        HistogramTree three = leftHeavy();
        three.dropTree();
        due("one part split again", three.train(), 3);
        due("both parts split again", fourCorners(1).train(), 4);
        HistogramTree later = fourCorners(1);
        later.train();
        due("of the new tree alone", later.train(), 1);
    }

    // Promise 5

    private static void dropWithoutTree() {
        HistogramTree x = new HistogramTree(1);
        due("a new object", x.dropTree(), EMPTY);
        due("a new object again", x.dropTree(), EMPTY);
        HistogramTree y = grown(20, 1);
        due("one tree", y.dropTree(), 0);
        due("none left", y.dropTree(), EMPTY);
        due("none left again", y.dropTree(), EMPTY);
        dueNoChange("dropTree of none", () -> grown(20, 0), z -> {
            z.dropTree();
            z.dropTree();
        });
    }

    private static void dropLeavesEarlierTrees() {
        for (int trees = 1; trees <= 4; trees++) {
            HistogramTree x = grown(23, trees);
            x.dropTree();
            dueSame("one of " + trees + " dropped", x, grown(23, trees - 1));
        }
    }

    private static void dropCounts() {
        HistogramTree x = grown(20, 4);
        for (int left = 3; left >= 0; left--) {
            due("dropTree", x.dropTree(), left);
        }
        due("dropTree", x.dropTree(), EMPTY);
        x.train();
        x.train();
        due("dropTree of two new ones", x.dropTree(), 1);
    }

    // Promise 6

    private static void clearOfNothing() {
        dueNoChange("a new object", () -> new HistogramTree(3), HistogramTree::clear);
        dueNoChange("a new object, twice", () -> new HistogramTree(3), x -> {
            x.clear();
            x.clear();
        });
    }

    private static void clearOfAFullObject() {
        HistogramTree x = grown(24, 4);
        x.clear();
        dueSame("cleared", x, new HistogramTree(2));
        HistogramTree again = grown(24, 4);
        again.clear();
        for (int i = 1; i <= 24; i++) {
            due("row " + i + " after clear", again.row(0, 5), i);
        }
        due("row 25 after clear", again.row(0, 5), FULL);
        for (int tree = 0; tree < 4; tree++) {
            due("train " + tree + " after clear", again.train(), 1);
        }
        due("train 4 after clear", again.train(), FULL);
        due("value(0, 0) after clear", again.value(0, 0), 5);
        // Only the one or only the other is there to be dropped.
        HistogramTree rowsOnly = grown(24, 0);
        rowsOnly.clear();
        dueSame("cleared of rows", rowsOnly, new HistogramTree(2));
        HistogramTree treesOnly = grown(0, 4);
        treesOnly.clear();
        dueSame("cleared of trees", treesOnly, new HistogramTree(2));
    }

    private static void clearKeepsTheLeafSize() {
        for (int size : new int[] {MIN, 1, 2, 11, 12, MAX}) {
            int clamped = size < 1 ? 1 : size > 12 ? 12 : size;
            HistogramTree x = new HistogramTree(size);
            addRows(x, 3, 1, 9);
            x.train();
            x.clear();
            addRows(x, clamped, 0, -9);
            addRows(x, clamped - 1, 1, 9);
            due("leaf size " + size + ", one too few", x.train(), 1);
            x.row(1, 9);
            x.dropTree();
            due("leaf size " + size + ", just enough", x.train(), 2);
        }
    }

    // Promise 7

    private static void predictWithoutTrees() {
        HistogramTree x = grown(24, 0);
        for (int features : new int[] {0, 1, 7, 8, 511, 512, -1, MIN, MAX}) {
            due("predict(" + features + ")", x.predict(features), 0);
        }
    }

    private static void predictWithFourTrees() {
        HistogramTree x = new HistogramTree(1);
        x.row(0, 0);
        int[] targets = {50, -50, 49, 7};
        for (int target : targets) {
            x.retarget(0, target);
            x.train();
            due("predict", x.predict(0), target);
        }
        int[] values = {50, -100, 99, -42};
        for (int tree = 0; tree < 4; tree++) {
            due("value(" + tree + ", 0)", x.value(tree, 0), values[tree]);
        }
        due("the fourth dropped: dropTree", x.dropTree(), 3);
        due("the fourth dropped: predict", x.predict(0), 49);
        HistogramTree y = fourCorners(2);
        y.train();
        y.train();
        due("features without a row", y.predict(pack(7, 7, 7)), 45);
        due("features without a row", y.predict(pack(3, 3, 3)), 45);
        due("features without a row", y.predict(pack(0, 3, 3)), -15);
    }

    private static void predictIgnoresHigherBits() {
        HistogramTree x = grown(24, 3);
        for (int high : new int[] {1 << 9, 1 << 30, MIN, 0x7ffffe00, 0xfffffe00}) {
            for (int i = 0; i < 24; i++) {
                int features = i * 197 & 511;
                due("predict(" + (features | high) + ")", x.predict(features | high), x.predict(features));
            }
        }
        HistogramTree y = fourCorners(1);
        y.train();
        due("predict(-1)", y.predict(-1), 50);
        due("predict(MIN)", y.predict(MIN), -40);
        due("predict(MAX)", y.predict(MAX), 50);
        due("predict(512)", y.predict(512), -40);
        due("predict(8)", y.predict(8), -20);
        due("predict(7)", y.predict(7), 10);
    }

    // Promise 8

    private static void restWithoutRow() {
        for (int rows : new int[] {0, 1, 4, 23, 24}) {
            // All targets 30 and a tree trained on 40: a rest of a row that isn't there would not be 0.
            HistogramTree x = new HistogramTree(12);
            addRows(x, rows, 0, 40);
            x.train();
            for (int i = 0; i < rows; i++) {
                x.retarget(i, 30);
            }
            for (int i : new int[] {MIN, -24, -1, rows, rows + 1, 24, 25, MAX}) {
                due(rows + " rows: rest(" + i + ")", x.rest(i), 0);
            }
        }
        HistogramTree x = grown(24, 0);
        x.clear();
        for (int i = 0; i < 24; i++) {
            due("after clear: rest(" + i + ")", x.rest(i), 0);
        }
    }

    private static void restOfFirstAndLastRow() {
        HistogramTree x = new HistogramTree(12);
        x.row(0, -50);
        addRows(x, 22, 0, 0);
        x.row(0, 50);
        due("rest(0)", x.rest(0), -50);
        due("rest(23)", x.rest(23), 50);
        x.train();
        x.retarget(1, 48);
        x.train();
        due("after a mean of 2: rest(0)", x.rest(0), -52);
        due("after a mean of 2: rest(23)", x.rest(23), 48);
    }

    // Promise 9

    private static void lossWithoutRows() {
        HistogramTree x = new HistogramTree(1);
        due("a new object", x.loss(), 0);
        x.train();
        due("with a tree", x.loss(), 0);
        HistogramTree y = grown(24, 0);
        y.clear();
        due("after clear", y.loss(), 0);
    }

    private static void lossOf24Rows() {
        HistogramTree x = new HistogramTree(1);
        addRows(x, 23, 0, -50);
        due("23 rows", x.loss(), 23 * 2500);
        x.row(0, -50);
        due("24 rows", x.loss(), 24 * 2500);
        x.train();
        due("nothing left over", x.loss(), 0);
        for (int i = 0; i < 24; i++) {
            x.retarget(i, 50);
        }
        due("24 rests of 100", x.loss(), 24 * 10000);
        x.train();
        x.dropTree();
        x.dropTree();
        x.retarget(0, -1);
        x.retarget(23, 1);
        due("without trees again", x.loss(), 22 * 2500 + 2);
    }

    // Promises 10 to 13

    private static void badNodes(NodeQuery query, int want) {
        HistogramTree x = leftHeavy();
        for (int other : new int[] {MIN, -7, -1, 7, 14, MAX}) {
            due("(0, " + other + ")", query.ask(x, 0, other), want);
            due("(" + other + ", 0)", query.ask(x, other, 0), want);
            due("(" + other + ", " + other + ")", query.ask(x, other, other), want);
        }
        due("(1, 0), not trained", query.ask(x, 1, 0), want);
        due("(3, 6), not trained", query.ask(x, 3, 6), want);
        due("(-1, 8), the place of (0, 1)", query.ask(x, -1, 8), want);
        due("(1, -1), the place of (0, 6)", query.ask(x, 1, -1), want);
        due("(613566757, 0), the place of (0, 3)", query.ask(x, 613566757, 0), want);
        x.dropTree();
        due("(0, 0), dropped", query.ask(x, 0, 0), want);
        due("(0, 3), dropped", query.ask(x, 0, 3), want);
    }

    private static void leaves(NodeQuery query, int wantOfNode2, int wantOfNode4) {
        HistogramTree x = leftHeavy();
        due("a leaf below node 0", query.ask(x, 0, 2), wantOfNode2);
        due("a leaf below node 1", query.ask(x, 0, 4), wantOfNode4);
    }

    private static void empties(NodeQuery query, int want) {
        HistogramTree x = leftHeavy();
        due("(0, 5)", query.ask(x, 0, 5), want);
        due("(0, 6)", query.ask(x, 0, 6), want);
        x.train();
        for (int node = 1; node <= 6; node++) {
            due("(1, " + node + ")", query.ask(x, 1, node), want);
        }
    }

    private static void valueOfASplit() {
        HistogramTree x = new HistogramTree(1);
        x.row(pack(0, 0, 0), 20);
        x.row(pack(0, 5, 0), 30);
        x.row(pack(4, 0, 0), 40);
        x.row(pack(4, 5, 0), 50);
        due("train", x.train(), 4);
        due("value(0, 0)", x.value(0, 0), 0);
        due("value(0, 1)", x.value(0, 1), 0);
        due("value(0, 2)", x.value(0, 2), 0);
        // Tree 0's node 0 was a leaf of 35 in a tree since dropped.
        HistogramTree y = new HistogramTree(1);
        y.row(0, 35);
        y.train();
        y.dropTree();
        y.row(1, 5);
        y.train();
        due("where a leaf was before: value(0, 0)", y.value(0, 0), 0);
    }

    private static void rowsWhenTrained() {
        HistogramTree x = leftHeavy();
        int[] then = {4, 2, 2, 1, 1, 0, 0};
        addRows(x, 20, pack(0, 0, 1), 0);
        x.retarget(0, 50);
        x.train();
        for (int node = 0; node < 7; node++) {
            due("rows(0, " + node + ")", x.rows(0, node), then[node]);
        }
        due("rows(1, 0)", x.rows(1, 0), 24);
    }

    // Promise 14

    private static void badTargetBeforeFull() {
        HistogramTree x = grown(24, 0);
        for (int target : BAD_TARGETS) {
            due("full: row(0, " + target + ")", x.row(0, target), BAD_TARGET);
        }
        due("full: row(0, 50)", x.row(0, 50), FULL);
        due("full: row(0, -50)", x.row(0, -50), FULL);
    }

    private static void badNodeBeforeBadTarget() {
        for (int rows : new int[] {0, 5, 24}) {
            HistogramTree x = grown(rows, 0);
            for (int target : BAD_TARGETS) {
                for (int i : new int[] {MIN, -1, rows, 24, MAX}) {
                    due(rows + " rows: retarget(" + i + ", " + target + ")", x.retarget(i, target), BAD_NODE);
                }
                if (rows > 0) {
                    int last = rows - 1;
                    due(rows + " rows: retarget(" + last + ", " + target + ")", x.retarget(last, target), BAD_TARGET);
                }
            }
        }
    }

    private static void valueWithoutTree() {
        HistogramTree x = new HistogramTree(1);
        due("a new object: value(0, 0)", x.value(0, 0), 0);
        x.row(0, 50);
        x.train();
        due("a leaf: value(0, 0)", x.value(0, 0), 50);
        for (int tree : new int[] {MIN, -1, 1, 2, 3, 4, 5, 613566757, MAX}) {
            for (int node = -1; node <= 7; node++) {
                due("value(" + tree + ", " + node + ")", x.value(tree, node), 0);
            }
        }
        x.dropTree();
        due("dropped: value(0, 0)", x.value(0, 0), 0);
        x.train();
        x.clear();
        due("cleared: value(0, 0)", x.value(0, 0), 0);
    }

    private static void valueWithoutNode() {
        HistogramTree x = fourCorners(1);
        for (int tree = 0; tree < 4; tree++) {
            for (int i = 0; i < 4; i++) {
                x.retarget(i, tree % 2 == 0 ? 50 : 20);
            }
            x.train();
        }
        for (int tree = 0; tree < 4; tree++) {
            due("a leaf: value(" + tree + ", 0)", x.value(tree, 0) != 0 ? 1 : 0, 1);
            for (int node : new int[] {MIN, -21, -14, -7, -1, 7, 8, 14, 21, MAX}) {
                due("value(" + tree + ", " + node + ")", x.value(tree, node), 0);
            }
        }
        HistogramTree y = fourCorners(1);
        y.train();
        due("the last leaf: value(0, 6)", y.value(0, 6), 50);
        due("value(1, -1), the place of (0, 6)", y.value(1, -1), 0);
        due("value(0, -1)", y.value(0, -1), 0);
        due("value(0, 7)", y.value(0, 7), 0);
    }
}
