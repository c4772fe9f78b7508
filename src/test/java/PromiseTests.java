/** Every promise of the document: ordinary inputs, the edges it names, and wrong inputs. */
public final class PromiseTests {
    private static final int BAD_TARGET = -2;
    private static final int FULL = -3;
    private static final int BAD_NODE = -5;
    private static final int LEAF = -6;
    private static final int EMPTY = -7;

    private static int wrong = 0;

    public static void main(String[] args) {
        newObject();
        leafSizeIsClamped();
        rowAnswersTheCount();
        rowDecodesFeatures();
        rowRefusesBadTargets();
        rowRefusesTheTwentyFifth();
        rowAfterTrees();
        retargetGivesAnotherTarget();
        retargetRefuses();
        trainWithoutRows();
        trainSplitsThreeNodes();
        trainTakesGainsExactly();
        trainBreaksTies();
        trainNeedsGainAndLeafSize();
        trainWorksOnTheRests();
        trainRefusesAFifthTree();
        dropTreeDropsTheLast();
        clearDropsAll();
        predictSumsTrees();
        restOfRows();
        lossSumsSquares();
        valueRoundsTowardsZero();
        nodeQueries();
        nodeQueriesRefuse();
        orderOfTests();
        queriesChangeNothing();
        objectsAreApart();
        System.out.println(wrong == 0 ? "all answers are as due" : wrong + " answers are not as due");
        if (wrong != 0) {
            System.exit(1);
        }
    }

    private static void due(String what, int got, int want) {
        if (got != want) {
            wrong++;
            System.out.println(what + " answered " + got + ", due is " + want);
        }
    }

    private static int pack(int f0, int f1, int f2) {
        return f0 | f1 << 3 | f2 << 6;
    }

    /** Each of the seven nodes as {feature, bound, value, rows}. */
    private static void dueTree(String what, HistogramTree x, int tree, int[][] want) {
        for (int node = 0; node < 7; node++) {
            String at = "(" + tree + ", " + node + ")";
            due(what + ": feature" + at, x.feature(tree, node), want[node][0]);
            due(what + ": bound" + at, x.bound(tree, node), want[node][1]);
            due(what + ": value" + at, x.value(tree, node), want[node][2]);
            due(what + ": rows" + at, x.rows(tree, node), want[node][3]);
        }
    }

    private static int[] split(int f, int b, int rows) {
        return new int[] {f, b, 0, rows};
    }

    private static int[] leaf(int value, int rows) {
        return new int[] {LEAF, LEAF, value, rows};
    }

    private static int[] none() {
        return new int[] {EMPTY, EMPTY, 0, 0};
    }

    private static int[][] stump(int f, int b, int[] left, int[] right) {
        return new int[][] {split(f, b, left[3] + right[3]), left, right, none(), none(), none(), none()};
    }

    private static int[][] lone(int value, int rows) {
        return new int[][] {leaf(value, rows), none(), none(), none(), none(), none(), none()};
    }

    /** Rows 0 to 3 differ in features 0 and 1 and lead to four leaves of one row. */
    private static HistogramTree fourCorners(int leafSize) {
        HistogramTree x = new HistogramTree(leafSize);
        x.row(pack(0, 0, 0), -40);
        x.row(pack(0, 5, 0), -20);
        x.row(pack(4, 0, 0), 10);
        x.row(pack(4, 5, 0), 50);
        return x;
    }

    // Promise 1

    private static void newObject() {
        HistogramTree x = new HistogramTree(1);
        due("new: loss", x.loss(), 0);
        due("new: rest(0)", x.rest(0), 0);
        due("new: predict(0)", x.predict(0), 0);
        due("new: feature(0, 0)", x.feature(0, 0), BAD_NODE);
        due("new: bound(0, 0)", x.bound(0, 0), BAD_NODE);
        due("new: value(0, 0)", x.value(0, 0), 0);
        due("new: rows(0, 0)", x.rows(0, 0), BAD_NODE);
        due("new: retarget(0, 0)", x.retarget(0, 0), BAD_NODE);
        due("new: dropTree", x.dropTree(), EMPTY);
        due("new: row", x.row(0, 0), 1);
    }

    private static int leavesOfTwoGroups(int leafSize, int left, int right) {
        HistogramTree x = new HistogramTree(leafSize);
        for (int i = 0; i < left; i++) {
            x.row(pack(2, 2, 2), -10);
        }
        for (int i = 0; i < right; i++) {
            x.row(pack(3, 3, 3), 10);
        }
        return x.train();
    }

    private static void leafSizeIsClamped() {
        int[] small = {Integer.MIN_VALUE, -5, -1, 0, 1};
        for (int size : small) {
            due("leafSize " + size + ", 1 and 1", leavesOfTwoGroups(size, 1, 1), 2);
        }
        int[] great = {12, 13, 24, 1000, Integer.MAX_VALUE};
        for (int size : great) {
            due("leafSize " + size + ", 12 and 12", leavesOfTwoGroups(size, 12, 12), 2);
            due("leafSize " + size + ", 11 and 13", leavesOfTwoGroups(size, 11, 13), 1);
            due("leafSize " + size + ", 13 and 11", leavesOfTwoGroups(size, 13, 11), 1);
        }
        for (int size = 1; size <= 12; size++) {
            due("leafSize " + size + ", enough left", leavesOfTwoGroups(size, size, 12), 2);
            due("leafSize " + size + ", enough right", leavesOfTwoGroups(size, 12, size), 2);
            due("leafSize " + size + ", few left", leavesOfTwoGroups(size, size - 1, 12), 1);
            due("leafSize " + size + ", few right", leavesOfTwoGroups(size, 12, size - 1), 1);
        }
    }

    // Promise 2

    private static void rowAnswersTheCount() {
        HistogramTree x = new HistogramTree(1);
        for (int i = 1; i <= 24; i++) {
            due("row " + i, x.row(i, i), i);
        }
        for (int i = 0; i < 24; i++) {
            due("rest of row " + i, x.rest(i), i + 1);
        }
    }

    private static void rowDecodesFeatures() {
        int[] above = {0, 1 << 9, 0x7ffffe00, 0xfffffe00, 0x80000000};
        for (int high : above) {
            for (int f = 0; f < 3; f++) {
                HistogramTree x = new HistogramTree(1);
                x.row(high | 3 << 3 * f, -6);
                x.row(high | 4 << 3 * f, 8);
                due("decoding: train", x.train(), 2);
                dueTree("decoding " + f, x, 0, stump(f, 3, leaf(-6, 1), leaf(8, 1)));
                for (int v = 0; v < 8; v++) {
                    due("decoding: predict", x.predict(high | v << 3 * f), v <= 3 ? -6 : 8);
                }
            }
        }
        HistogramTree x = new HistogramTree(1);
        x.row(-1, 5);
        x.row(511, 9);
        due("-1 is 7, 7, 7: train", x.train(), 1);
        x.row(Integer.MIN_VALUE, 0);
        due("-1 is 7, 7, 7: predict", x.predict(-1), 7);
    }

    private static void rowRefusesBadTargets() {
        HistogramTree x = new HistogramTree(1);
        int[] bad = {-51, 51, 100, Integer.MIN_VALUE, Integer.MAX_VALUE};
        for (int target : bad) {
            due("row(0, " + target + ")", x.row(0, target), BAD_TARGET);
        }
        due("row(0, -50)", x.row(0, -50), 1);
        due("row(0, 50)", x.row(0, 50), 2);
        due("row(0, 51)", x.row(0, 51), BAD_TARGET);
        due("row refused: rest(2)", x.rest(2), 0);
        due("row refused: loss", x.loss(), 5000);
    }

    private static void rowRefusesTheTwentyFifth() {
        HistogramTree x = new HistogramTree(1);
        for (int i = 0; i < 24; i++) {
            x.row(0, 2);
        }
        due("25th row", x.row(0, 50), FULL);
        due("25th row again", x.row(7, 1), FULL);
        due("25th row: loss", x.loss(), 96);
        due("25th row: rest(23)", x.rest(23), 2);
        due("25th row: rest(24)", x.rest(24), 0);
        due("25th row: train", x.train(), 1);
        due("25th row: rows(0, 0)", x.rows(0, 0), 24);
    }

    private static void rowAfterTrees() {
        HistogramTree x = fourCorners(1);
        x.train();
        due("row after a tree", x.row(pack(7, 7, 7), 20), 5);
        due("row after a tree: rest", x.rest(4), -30);
        due("row after a tree: loss", x.loss(), 900);
        due("row after a tree: rows(0, 0)", x.rows(0, 0), 4);
        due("row after a tree: rows(0, 6)", x.rows(0, 6), 1);
        due("row after a tree: value(0, 6)", x.value(0, 6), 50);
    }

    // Promise 3

    private static void retargetGivesAnotherTarget() {
        HistogramTree x = fourCorners(1);
        x.train();
        due("retarget(1, 33)", x.retarget(1, 33), -20);
        due("retarget: rest(1)", x.rest(1), 53);
        due("retarget: value(0, 4)", x.value(0, 4), -20);
        due("retarget: predict", x.predict(pack(0, 5, 0)), -20);
        due("retarget(1, 50)", x.retarget(1, 50), 33);
        due("retarget(1, -50)", x.retarget(1, -50), 50);
        due("retarget(1, -50) again", x.retarget(1, -50), -50);
        due("retarget: loss", x.loss(), 900);
        due("retarget(0, 0)", x.retarget(0, 0), -40);
        due("retarget(3, 0)", x.retarget(3, 0), 50);
    }

    private static void retargetRefuses() {
        HistogramTree x = fourCorners(1);
        int[] noRow = {-1, 4, 5, 23, 24, Integer.MIN_VALUE, Integer.MAX_VALUE};
        for (int i : noRow) {
            due("retarget(" + i + ", 0)", x.retarget(i, 0), BAD_NODE);
        }
        int[] bad = {-51, 51, Integer.MIN_VALUE, Integer.MAX_VALUE};
        for (int target : bad) {
            due("retarget(2, " + target + ")", x.retarget(2, target), BAD_TARGET);
        }
        due("retarget refused: rest(2)", x.rest(2), 10);
        due("retarget refused: loss", x.loss(), 1600 + 400 + 100 + 2500);
    }

    // Promise 4 and the terms

    private static void trainWithoutRows() {
        HistogramTree x = new HistogramTree(1);
        due("train without rows", x.train(), 1);
        dueTree("no rows", x, 0, lone(0, 0));
        due("no rows: predict", x.predict(77), 0);
        x.row(0, 9);
        due("no rows: rest", x.rest(0), 9);
        due("train with one row", x.train(), 1);
        dueTree("one row", x, 1, lone(9, 1));
    }

    private static void trainSplitsThreeNodes() {
        HistogramTree x = fourCorners(1);
        due("corners: train", x.train(), 4);
        dueTree("corners", x, 0, new int[][] {
            split(0, 0, 4), split(1, 0, 2), split(1, 0, 2),
            leaf(-40, 1), leaf(-20, 1), leaf(10, 1), leaf(50, 1)});

        HistogramTree left = new HistogramTree(1);
        left.row(pack(0, 0, 1), -50);
        left.row(pack(0, 0, 6), -30);
        left.row(pack(7, 0, 1), 50);
        left.row(pack(7, 0, 6), 50);
        due("left only: train", left.train(), 3);
        dueTree("left only", left, 0, new int[][] {
            split(0, 0, 4), split(2, 1, 2), leaf(50, 2), leaf(-50, 1), leaf(-30, 1), none(), none()});

        HistogramTree right = new HistogramTree(1);
        right.row(pack(6, 1, 0), -50);
        right.row(pack(6, 6, 0), -50);
        right.row(pack(7, 1, 0), 50);
        right.row(pack(7, 6, 0), 30);
        due("right only: train", right.train(), 3);
        dueTree("right only", right, 0, new int[][] {
            split(0, 6, 4), leaf(-50, 2), split(1, 1, 2), none(), none(), leaf(50, 1), leaf(30, 1)});

        HistogramTree deep = new HistogramTree(1);
        for (int v = 0; v < 8; v++) {
            deep.row(pack(v, 0, 0), 10 * v - 30);
        }
        due("no fourth level: train", deep.train(), 4);
        dueTree("no fourth level", deep, 0, new int[][] {
            split(0, 3, 8), split(0, 1, 4), split(0, 5, 4),
            leaf(-25, 2), leaf(-5, 2), leaf(15, 2), leaf(35, 2)});
    }

    private static void trainTakesGainsExactly() {
        // The gain is 1/2 - 1/4: whole-number division would see none.
        HistogramTree x = new HistogramTree(2);
        x.row(pack(0, 0, 0), 1);
        x.row(pack(0, 0, 0), 0);
        x.row(pack(1, 0, 0), 0);
        x.row(pack(1, 0, 0), 0);
        due("gain 1/4: train", x.train(), 2);
        dueTree("gain 1/4", x, 0, stump(0, 0, leaf(0, 2), leaf(0, 2)));

        // Feature 0: 1/2 + 4/3 - 9/5 = 1/30. Feature 1: 4/2 + 1/3 - 9/5 = 16/30.
        HistogramTree y = new HistogramTree(2);
        y.row(pack(0, 0, 0), 1);
        y.row(pack(0, 1, 0), 0);
        y.row(pack(1, 0, 0), 1);
        y.row(pack(1, 1, 0), 1);
        y.row(pack(1, 1, 0), 0);
        due("gain 16/30: train", y.train(), 2);
        dueTree("gain 16/30", y, 0, stump(1, 0, leaf(1, 2), leaf(0, 3)));

        HistogramTree z = new HistogramTree(1);
        z.row(pack(0, 0, 0), 0);
        z.row(pack(1, 0, 0), 1);
        z.row(pack(1, 0, 0), 0);
        due("gain 1/6: train", z.train(), 2);
        dueTree("gain 1/6", z, 0, stump(0, 0, leaf(0, 1), leaf(0, 2)));

        // Feature 0: 64/1 + 16/3 - 16/4 = 65 1/3. Feature 1: 100/2 + 36/2 - 16/4 = 64.
        HistogramTree u = new HistogramTree(1);
        u.row(pack(0, 0, 0), 8);
        u.row(pack(1, 0, 0), 2);
        u.row(pack(1, 1, 0), -3);
        u.row(pack(1, 1, 0), -3);
        due("one row against three: train", u.train(), 3);
        dueTree("one row against three", u, 0, new int[][] {
            split(0, 0, 4), leaf(8, 1), split(1, 0, 3), none(), none(), leaf(2, 1), leaf(-3, 2)});
    }

    private static void trainBreaksTies() {
        HistogramTree x = new HistogramTree(1);
        x.row(pack(2, 1, 0), -3);
        x.row(pack(6, 5, 7), 3);
        x.train();
        dueTree("smaller feature, then smaller bound", x, 0, stump(0, 2, leaf(-3, 1), leaf(3, 1)));

        HistogramTree y = new HistogramTree(1);
        y.row(pack(2, 5, 0), -3);
        y.row(pack(2, 6, 7), 3);
        y.train();
        dueTree("feature 1 before feature 2", y, 0, stump(1, 5, leaf(-3, 1), leaf(3, 1)));

        // Bounds 1 and 3 each part one row of 6 from two rows with the sum 6: equal gains.
        HistogramTree z = new HistogramTree(1);
        z.row(pack(1, 0, 0), 6);
        z.row(pack(3, 0, 0), 0);
        z.row(pack(5, 0, 0), 6);
        z.train();
        dueTree("equal gains of other rows", z, 0, new int[][] {
            split(0, 1, 3), leaf(6, 1), split(0, 3, 2), none(), none(), leaf(0, 1), leaf(6, 1)});
    }

    private static void trainNeedsGainAndLeafSize() {
        HistogramTree even = new HistogramTree(1);
        even.row(pack(0, 1, 2), 7);
        even.row(pack(3, 4, 5), 7);
        due("no gain: train", even.train(), 1);
        dueTree("no gain", even, 0, lone(7, 2));

        HistogramTree xor = new HistogramTree(1);
        xor.row(pack(0, 0, 0), 5);
        xor.row(pack(0, 1, 0), -5);
        xor.row(pack(1, 0, 0), -5);
        xor.row(pack(1, 1, 0), 5);
        due("gain 0 at node 0: train", xor.train(), 1);
        dueTree("gain 0 at node 0", xor, 0, lone(0, 4));

        HistogramTree same = new HistogramTree(1);
        same.row(pack(7, 7, 7), 50);
        same.row(pack(7, 7, 7), -50);
        due("nothing to split: train", same.train(), 1);
        dueTree("nothing to split", same, 0, lone(0, 2));

        HistogramTree two = fourCorners(2);
        due("leaf size 2: train", two.train(), 2);
        dueTree("leaf size 2", two, 0, stump(0, 0, leaf(-30, 2), leaf(30, 2)));

        // The greatest gain of all, bound 0, leaves too few rows on the left.
        HistogramTree few = new HistogramTree(2);
        few.row(pack(0, 0, 0), 50);
        few.row(pack(1, 0, 0), 0);
        few.row(pack(2, 0, 0), 0);
        few.row(pack(3, 0, 0), 0);
        due("allowed only: train", few.train(), 2);
        dueTree("allowed only", few, 0, stump(0, 1, leaf(25, 2), leaf(0, 2)));
    }

    private static void trainWorksOnTheRests() {
        HistogramTree x = fourCorners(2);
        x.train();
        due("second tree: rest(0)", x.rest(0), -10);
        due("second tree: train", x.train(), 2);
        dueTree("second tree", x, 1, stump(1, 0, leaf(-15, 2), leaf(15, 2)));
        dueTree("first tree", x, 0, stump(0, 0, leaf(-30, 2), leaf(30, 2)));
        due("second tree: rest(0)", x.rest(0), 5);
        due("second tree: rest(1)", x.rest(1), -5);
        due("second tree: rest(2)", x.rest(2), -5);
        due("second tree: rest(3)", x.rest(3), 5);
        due("second tree: loss", x.loss(), 100);
        x.retarget(0, 45);
        due("third tree: rest(0)", x.rest(0), 90);
        due("third tree: train", x.train(), 2);
        dueTree("third tree", x, 2, stump(0, 0, leaf(42, 2), leaf(0, 2)));
    }

    private static void trainRefusesAFifthTree() {
        HistogramTree x = fourCorners(1);
        due("train 1", x.train(), 4);
        due("train 2", x.train(), 1);
        x.retarget(0, -30);
        due("train 3", x.train(), 3);
        due("train 4", x.train(), 1);
        x.retarget(3, 0);
        due("train 5", x.train(), FULL);
        due("train 6", x.train(), FULL);
        due("fifth tree: rest(3)", x.rest(3), -50);
        due("fifth tree: feature(4, 0)", x.feature(4, 0), BAD_NODE);
        dueTree("fourth tree stays", x, 3, lone(0, 4));
        due("fifth tree: dropTree", x.dropTree(), 3);
        due("train 4 again", x.train(), 3);
    }

    // Promise 5

    private static void dropTreeDropsTheLast() {
        HistogramTree x = fourCorners(2);
        for (int i = 0; i < 4; i++) {
            x.train();
        }
        due("dropTree from four", x.dropTree(), 3);
        due("dropTree from three", x.dropTree(), 2);
        due("dropTree from two", x.dropTree(), 1);
        due("dropped: feature(1, 0)", x.feature(1, 0), BAD_NODE);
        due("dropped: value(1, 1)", x.value(1, 1), 0);
        dueTree("the first stays", x, 0, stump(0, 0, leaf(-30, 2), leaf(30, 2)));
        due("dropped: rest(0)", x.rest(0), -10);
        due("dropTree from one", x.dropTree(), 0);
        due("dropped: predict", x.predict(0), 0);
        due("dropped: rest(0)", x.rest(0), -40);
        due("dropTree from none", x.dropTree(), EMPTY);
        due("dropTree from none again", x.dropTree(), EMPTY);
        due("dropped: loss", x.loss(), 1600 + 400 + 100 + 2500);
        for (int i = 0; i < 4; i++) {
            x.retarget(i, 8);
        }
        due("dropped: train", x.train(), 1);
        dueTree("nothing is left of the dropped", x, 0, lone(8, 4));
    }

    // Promise 6

    private static void clearDropsAll() {
        HistogramTree x = fourCorners(2);
        x.train();
        x.train();
        x.clear();
        due("clear: loss", x.loss(), 0);
        due("clear: rest(0)", x.rest(0), 0);
        due("clear: predict", x.predict(0), 0);
        due("clear: rows(0, 0)", x.rows(0, 0), BAD_NODE);
        due("clear: value(0, 1)", x.value(0, 1), 0);
        due("clear: retarget", x.retarget(0, 0), BAD_NODE);
        due("clear: dropTree", x.dropTree(), EMPTY);
        due("clear: train", x.train(), 1);
        dueTree("cleared", x, 0, lone(0, 0));
        x.clear();
        due("clear: row", x.row(pack(0, 0, 0), -9), 1);
        due("clear: row", x.row(pack(1, 0, 0), 9), 2);
        due("clear keeps the leaf size", x.train(), 1);
        due("clear: row", x.row(pack(0, 0, 0), -9), 3);
        due("clear: row", x.row(pack(1, 0, 0), 9), 4);
        due("clear keeps the leaf size", x.train(), 2);

        HistogramTree full = new HistogramTree(1);
        for (int i = 0; i < 24; i++) {
            full.row(i, i);
        }
        for (int i = 0; i < 4; i++) {
            full.train();
        }
        full.clear();
        due("clear of a full one: row", full.row(0, 1), 1);
        due("clear of a full one: train", full.train(), 1);
        dueTree("cleared full one", full, 0, lone(1, 1));
    }

    // Promise 7

    private static void predictSumsTrees() {
        HistogramTree x = fourCorners(2);
        x.train();
        x.train();
        due("predict 0, 0", x.predict(pack(0, 0, 0)), -45);
        due("predict 0, 1", x.predict(pack(0, 1, 3)), -15);
        due("predict 1, 0", x.predict(pack(1, 0, 7)), 15);
        due("predict 7, 7", x.predict(pack(7, 7, 7)), 45);
        due("predict -1", x.predict(-1), 45);
        due("predict 512", x.predict(512), -45);
        due("predict MIN", x.predict(Integer.MIN_VALUE), -45);
        due("predict MAX", x.predict(Integer.MAX_VALUE), 45);
        HistogramTree four = fourCorners(1);
        four.train();
        due("predict by leaf 3", four.predict(pack(0, 0, 5)), -40);
        due("predict by leaf 4", four.predict(pack(0, 1, 5)), -20);
        due("predict by leaf 5", four.predict(pack(1, 0, 5)), 10);
        due("predict by leaf 6", four.predict(pack(1, 1, 5)), 50);
    }

    // Promise 8

    private static void restOfRows() {
        HistogramTree x = fourCorners(12);
        due("rest before a tree", x.rest(3), 50);
        x.train();
        due("rest(0)", x.rest(0), -40);
        int[] noRow = {-1, 4, 24, Integer.MIN_VALUE, Integer.MAX_VALUE};
        for (int i : noRow) {
            due("rest(" + i + ")", x.rest(i), 0);
        }
        x.retarget(0, 40);
        x.train();
        due("rest(0) after a mean of 20", x.rest(0), 20);
        due("rest(1) after a mean of 20", x.rest(1), -40);
        due("rest(2) after a mean of 20", x.rest(2), -10);
        due("rest(3) after a mean of 20", x.rest(3), 30);
        // There is no row 4: the trees' prediction does not count in its rest.
        due("rest(4) after a mean of 20", x.rest(4), 0);
    }

    // Promise 9

    private static void lossSumsSquares() {
        HistogramTree x = new HistogramTree(1);
        for (int i = 0; i < 24; i++) {
            x.row(0, i % 2 == 0 ? 50 : -50);
        }
        due("loss of 24 rows", x.loss(), 24 * 2500);
        for (int i = 0; i < 24; i++) {
            x.retarget(i, 50);
        }
        x.train();
        due("loss of none left", x.loss(), 0);
        for (int i = 0; i < 24; i++) {
            x.retarget(i, -50);
        }
        due("loss of rests of 100", x.loss(), 24 * 10000);
    }

    // Promises 10 to 13

    private static int loneValue(int... targets) {
        HistogramTree x = new HistogramTree(1);
        for (int target : targets) {
            x.row(0, target);
        }
        x.train();
        return x.value(0, 0);
    }

    private static void valueRoundsTowardsZero() {
        due("value of 1, 0", loneValue(1, 0), 0);
        due("value of -1, 0", loneValue(-1, 0), 0);
        due("value of -1, -2", loneValue(-1, -2), -1);
        due("value of 1, 2", loneValue(1, 2), 1);
        due("value of -5, -5, -4", loneValue(-5, -5, -4), -4);
        due("value of 5, 5, 4", loneValue(5, 5, 4), 4);
        due("value of -50, -50", loneValue(-50, -50), -50);
        due("value of 50, 49", loneValue(50, 49), 49);
    }

    private static void nodeQueries() {
        HistogramTree x = new HistogramTree(1);
        x.row(pack(0, 0, 1), -50);
        x.row(pack(0, 0, 6), -30);
        x.row(pack(7, 0, 1), 50);
        x.row(pack(7, 0, 6), 50);
        x.train();
        due("feature of a split", x.feature(0, 1), 2);
        due("feature of a leaf above", x.feature(0, 2), LEAF);
        due("feature of a leaf below", x.feature(0, 3), LEAF);
        due("feature of an empty node", x.feature(0, 5), EMPTY);
        due("bound of a split", x.bound(0, 1), 1);
        due("bound of a leaf above", x.bound(0, 2), LEAF);
        due("bound of a leaf below", x.bound(0, 4), LEAF);
        due("bound of an empty node", x.bound(0, 6), EMPTY);
        due("value of a split", x.value(0, 0), 0);
        due("value of a split", x.value(0, 1), 0);
        due("value of a leaf above", x.value(0, 2), 50);
        due("value of a leaf below", x.value(0, 4), -30);
        due("value of an empty node", x.value(0, 5), 0);
        due("rows of a split", x.rows(0, 0), 4);
        due("rows of a split", x.rows(0, 1), 2);
        due("rows of a leaf above", x.rows(0, 2), 2);
        due("rows of a leaf below", x.rows(0, 3), 1);
        due("rows of an empty node", x.rows(0, 6), 0);
        x.row(pack(0, 0, 1), 0);
        due("rows when the tree was trained", x.rows(0, 0), 4);
        due("rows when the tree was trained", x.rows(0, 3), 1);
    }

    private static void dueNoNode(HistogramTree x, int tree, int node) {
        String at = "(" + tree + ", " + node + ")";
        due("feature" + at, x.feature(tree, node), BAD_NODE);
        due("bound" + at, x.bound(tree, node), BAD_NODE);
        due("value" + at, x.value(tree, node), 0);
        due("rows" + at, x.rows(tree, node), BAD_NODE);
    }

    private static void nodeQueriesRefuse() {
        HistogramTree x = fourCorners(1);
        x.train();
        x.retarget(0, 50);
        x.train();
        int[] noTree = {-1, 2, 3, 4, 5, Integer.MIN_VALUE, Integer.MAX_VALUE};
        for (int tree : noTree) {
            dueNoNode(x, tree, 0);
            dueNoNode(x, tree, 6);
            dueNoNode(x, tree, 7);
        }
        int[] noNode = {-7, -1, 7, 8, 14, Integer.MIN_VALUE, Integer.MAX_VALUE};
        for (int node : noNode) {
            dueNoNode(x, 0, node);
            dueNoNode(x, 1, node);
        }
        // 613566757 * 7 wraps round to 3: a cell that exists.
        dueNoNode(x, 613566757, 0);
    }

    // Promise 14

    private static void orderOfTests() {
        HistogramTree x = new HistogramTree(1);
        for (int i = 0; i < 24; i++) {
            x.row(0, 1);
        }
        due("full and bad target", x.row(0, 51), BAD_TARGET);
        due("full and bad target", x.row(0, -51), BAD_TARGET);
        due("full", x.row(0, 0), FULL);
        due("no row and bad target", x.retarget(24, 51), BAD_NODE);
        due("no row and bad target", x.retarget(-1, -51), BAD_NODE);
        due("bad target", x.retarget(23, 51), BAD_TARGET);
        due("value of no tree", x.value(0, 0), 0);
        x.train();
        due("value of a leaf", x.value(0, 0), 1);
        due("value of no tree", x.value(1, 0), 0);
        due("value of no tree", x.value(-1, 0), 0);
        due("value of no node", x.value(0, 7), 0);
        due("value of no node", x.value(0, -1), 0);
    }

    private static void queriesChangeNothing() {
        HistogramTree x = fourCorners(2);
        x.train();
        for (int round = 0; round < 3; round++) {
            due("again: predict", x.predict(0), -30);
            due("again: rest", x.rest(0), -10);
            due("again: loss", x.loss(), 100 + 100 + 400 + 400);
            dueTree("again", x, 0, stump(0, 0, leaf(-30, 2), leaf(30, 2)));
        }
        due("again: train", x.train(), 2);
        dueTree("trained after queries", x, 1, stump(1, 0, leaf(-15, 2), leaf(15, 2)));
    }

    private static void objectsAreApart() {
        HistogramTree x = fourCorners(1);
        HistogramTree y = new HistogramTree(12);
        x.train();
        due("another object: loss", y.loss(), 0);
        due("another object: row", y.row(0, 3), 1);
        due("another object: train", y.train(), 1);
        due("another object: value", y.value(0, 0), 3);
        due("first object: value", x.value(0, 3), -40);
        due("first object: rows", x.rows(0, 0), 4);
    }
}
