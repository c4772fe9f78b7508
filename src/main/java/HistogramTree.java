/** A trainer of small regression trees, one after the other. */
public final class HistogramTree {
    public static final int BAD_FEATURE = -1;
    public static final int BAD_TARGET = -2;
    public static final int FULL = -3;
    public static final int BAD_SIZE = -4;
    public static final int BAD_NODE = -5;
    public static final int LEAF = -6;
    public static final int EMPTY = -7;

    private static final int MAX_ROWS = 24;
    private static final int MAX_TREES = 4;
    private static final int MAX_TARGET = 50;
    private static final int MAX_LEAF_SIZE = 12;
    private static final int FEATURES = 3;
    private static final int FEATURE_BITS = 3;
    private static final int MAX_FEATURE_VALUE = 7;
    private static final int NODES = 7;
    private static final int SPLITTABLE_NODES = 3;
    private static final int LEVELS_BELOW_ROOT = 2;
    private static final int CELLS = MAX_TREES * NODES;

    private final int leafSize;

    private int rowCount = 0;
    private final int[] rowFeatures = new int[MAX_ROWS];
    private final int[] rowTarget = new int[MAX_ROWS];

    // Node k of tree t is kept in cell t * NODES + k. The feature and the bound
    // of a node without a split are LEAF or EMPTY, which no real one can be.
    private int treeCount = 0;
    private final int[] cellFeature = new int[CELLS];
    private final int[] cellBound = new int[CELLS];
    private final int[] cellValue = new int[CELLS];
    private final int[] cellRows = new int[CELLS];

    // Used while a tree is trained; no call reads what an earlier one left here.
    private final int[] rowRest = new int[MAX_ROWS];
    private final int[] rowNode = new int[MAX_ROWS];
    private int bestFeature = LEAF;
    private int bestBound = LEAF;
    private long bestGainTop = 0;
    private long bestGainBottom = 1;

    public HistogramTree(int leafSize) {
        this.leafSize = leafSize < 1 ? 1 : leafSize > MAX_LEAF_SIZE ? MAX_LEAF_SIZE : leafSize;
    }

    public int row(int features, int target) {
        if (!isTarget(target)) {
            return BAD_TARGET;
        }
        if (rowCount >= MAX_ROWS) {
            return FULL;
        }
        rowFeatures[rowCount] = features;
        rowTarget[rowCount] = target;
        rowCount++;
        return rowCount;
    }

    public int retarget(int i, int target) {
        if (!isRow(i)) {
            return BAD_NODE;
        }
        if (!isTarget(target)) {
            return BAD_TARGET;
        }
        int old = rowTarget[i];
        rowTarget[i] = target;
        return old;
    }

    public int train() {
        if (treeCount >= MAX_TREES) {
            return FULL;
        }
        int tree = treeCount;
        // Taken once, so that the half grown tree never counts in the rests.
        for (int i = 0; i < rowCount; i++) {
            rowRest[i] = rest(i);
        }
        plantTree(tree);
        for (int node = 0; node < NODES; node++) {
            growNode(tree, node);
        }
        treeCount++;
        return countLeaves(tree);
    }

    public int dropTree() {
        if (treeCount == 0) {
            return EMPTY;
        }
        treeCount--;
        return treeCount;
    }

    public void clear() {
        rowCount = 0;
        treeCount = 0;
    }

    public int predict(int features) {
        int sum = 0;
        for (int tree = 0; tree < treeCount; tree++) {
            sum += predictByTree(tree, features);
        }
        return sum;
    }

    public int rest(int i) {
        if (!isRow(i)) {
            return 0;
        }
        return rowTarget[i] - predict(rowFeatures[i]);
    }

    public int loss() {
        int sum = 0;
        for (int i = 0; i < rowCount; i++) {
            int leftOver = rest(i);
            sum += leftOver * leftOver;
        }
        return sum;
    }

    public int feature(int tree, int node) {
        return isNode(tree, node) ? cellFeature[tree * NODES + node] : BAD_NODE;
    }

    public int bound(int tree, int node) {
        return isNode(tree, node) ? cellBound[tree * NODES + node] : BAD_NODE;
    }

    public int value(int tree, int node) {
        return isNode(tree, node) ? cellValue[tree * NODES + node] : 0;
    }

    public int rows(int tree, int node) {
        return isNode(tree, node) ? cellRows[tree * NODES + node] : BAD_NODE;
    }

    private static boolean isTarget(int target) {
        return target >= -MAX_TARGET && target <= MAX_TARGET;
    }

    private boolean isRow(int i) {
        return i >= 0 && i < rowCount;
    }

    private boolean isNode(int tree, int node) {
        return tree >= 0 && tree < treeCount && node >= 0 && node < NODES;
    }

    private static int pickFeature(int features, int f) {
        return (features >> (FEATURE_BITS * f)) & MAX_FEATURE_VALUE;
    }

    private int predictByTree(int tree, int features) {
        int node = 0;
        for (int level = 0; level < LEVELS_BELOW_ROOT; level++) {
            int cell = tree * NODES + node;
            int f = cellFeature[cell];
            if (f >= 0) {
                node = pickFeature(features, f) <= cellBound[cell] ? 2 * node + 1 : 2 * node + 2;
            }
        }
        return cellValue[tree * NODES + node];
    }

    private void plantTree(int tree) {
        for (int node = 0; node < NODES; node++) {
            int kind = node == 0 ? LEAF : EMPTY;
            setNode(tree * NODES + node, kind, kind);
            cellValue[tree * NODES + node] = 0;
            cellRows[tree * NODES + node] = 0;
        }
        for (int i = 0; i < rowCount; i++) {
            rowNode[i] = 0;
        }
    }

    private void setNode(int cell, int f, int b) {
        cellFeature[cell] = f;
        cellBound[cell] = b;
    }

    private void growNode(int tree, int node) {
        int cell = tree * NODES + node;
        if (cellFeature[cell] == EMPTY) {
            return;
        }
        // No feature value is above this bound, so all rows of the node are left of it.
        int n = countLeft(node, 0, MAX_FEATURE_VALUE);
        int s = sumLeft(node, 0, MAX_FEATURE_VALUE);
        cellRows[cell] = n;
        if (node < SPLITTABLE_NODES) {
            findBestSplit(node, n, s);
            if (bestFeature != LEAF) {
                splitNode(tree, node);
                return;
            }
        }
        cellValue[cell] = n == 0 ? 0 : s / n;
    }

    private int countLeft(int node, int f, int b) {
        int count = 0;
        for (int i = 0; i < rowCount; i++) {
            if (rowNode[i] == node && pickFeature(rowFeatures[i], f) <= b) {
                count++;
            }
        }
        return count;
    }

    private int sumLeft(int node, int f, int b) {
        int sum = 0;
        for (int i = 0; i < rowCount; i++) {
            if (rowNode[i] == node && pickFeature(rowFeatures[i], f) <= b) {
                sum += rowRest[i];
            }
        }
        return sum;
    }

    // The order of the loops and the strict comparison in offerSplit give equal
    // gains to the smaller feature, then to the smaller bound.
    private void findBestSplit(int node, int n, int s) {
        bestFeature = LEAF;
        bestBound = LEAF;
        bestGainTop = 0;
        bestGainBottom = 1;
        for (int f = 0; f < FEATURES; f++) {
            for (int b = 0; b < MAX_FEATURE_VALUE; b++) {
                int nl = countLeft(node, f, b);
                int sl = sumLeft(node, f, b);
                if (nl >= leafSize && n - nl >= leafSize) {
                    offerSplit(f, b, nl, sl, n - nl, s - sl);
                }
            }
        }
    }

    // The gain is (sl * nr - sr * nl)^2 / (nl * nr * n). The n is the same for
    // all splits of a node, so it is left out; fractions are compared crosswise,
    // which stays exact. Rests stay within 800, so a long is wide enough.
    private void offerSplit(int f, int b, int nl, int sl, int nr, int sr) {
        long difference = (long) sl * nr - (long) sr * nl;
        long gainTop = difference * difference;
        long gainBottom = (long) nl * nr;
        if (gainTop * bestGainBottom > bestGainTop * gainBottom) {
            bestFeature = f;
            bestBound = b;
            bestGainTop = gainTop;
            bestGainBottom = gainBottom;
        }
    }

    private void splitNode(int tree, int node) {
        int left = 2 * node + 1;
        int right = 2 * node + 2;
        setNode(tree * NODES + node, bestFeature, bestBound);
        setNode(tree * NODES + left, LEAF, LEAF);
        setNode(tree * NODES + right, LEAF, LEAF);
        for (int i = 0; i < rowCount; i++) {
            if (rowNode[i] == node) {
                rowNode[i] = pickFeature(rowFeatures[i], bestFeature) <= bestBound ? left : right;
            }
        }
    }

    private int countLeaves(int tree) {
        int leaves = 0;
        for (int node = 0; node < NODES; node++) {
            if (cellFeature[tree * NODES + node] == LEAF) {
                leaves++;
            }
        }
        return leaves;
    }
}
