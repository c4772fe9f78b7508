import java.math.BigInteger;
import java.util.ArrayList;
import java.util.List;

/** Long runs of calls, each answer compared with that of a plain model of the document. */
public final class ModelTests {
    private static final int RUNS = 2000;
    private static final int CALLS = 512;

    private static long seed = 1;

    public static void main(String[] args) {
        int wrong = 0;
        for (int run = 0; run < RUNS && wrong < 10; run++) {
            wrong += wrongRun(run) ? 1 : 0;
        }
        System.out.println(wrong == 0 ? "all answers are as due" : wrong + " runs are not as due");
        if (wrong != 0) {
            System.exit(1);
        }
    }

    /** A fixed sequence, the same in every run of the tests. */
    private static int pick(int below) {
        seed = seed * 6364136223846793005L + 1442695040888963407L;
        return (int) ((seed >>> 33) % below);
    }

    private static boolean wrongRun(int run) {
        int leafSize = pick(3) == 0 ? pick(16) - 1 : 1 + pick(4);
        // Few feature values and few targets make many equal gains.
        int values = 1 + pick(8);
        int spread = new int[] {1, 2, 5, 20, 50}[pick(5)];
        int wantedRows = 1 + pick(24);
        HistogramTree x = new HistogramTree(leafSize);
        Model model = new Model(leafSize);
        StringBuilder told = new StringBuilder("run " + run + ": leafSize " + leafSize);
        for (int i = 0; i < CALLS; i++) {
            int kind = i < wantedRows ? 0 : pick(100);
            int a = 0;
            int b = 0;
            if (kind < 5) {
                a = pick(values) | pick(values) << 3 | pick(values) << 6 | (pick(9) == 0 ? pick(1 << 22) << 9 : 0);
                b = pick(40) == 0 ? pick(200) - 100 : pick(2 * spread + 1) - spread;
            } else if (kind < 15) {
                a = pick(28) - 2;
                b = pick(10) == 0 ? pick(200) - 100 : pick(2 * spread + 1) - spread;
            } else if (kind < 30) {
                a = 0;
            } else if (kind < 50) {
                a = pick(10) == 0 ? pick(1 << 30) * 4 : pick(512);
            } else if (kind < 60) {
                a = pick(28) - 2;
            } else if (kind >= 65) {
                a = pick(12) == 0 ? pick(10) - 3 : pick(4);
                b = pick(12) == 0 ? pick(16) - 5 : pick(7);
            }
            String name = nameOf(kind);
            int got = call(x, name, a, b);
            int want = model.call(name, a, b);
            told.append("\n  ").append(name).append('(').append(a).append(", ").append(b).append(") ").append(got);
            if (got != want) {
                System.out.println(told + ", due is " + want);
                return true;
            }
        }
        return false;
    }

    private static String nameOf(int kind) {
        if (kind < 5) return "row";
        if (kind < 15) return "retarget";
        if (kind < 23) return "train";
        if (kind < 29) return "dropTree";
        if (kind < 30) return pick(4) == 0 ? "clear" : "train";
        if (kind < 50) return "predict";
        if (kind < 60) return "rest";
        if (kind < 65) return "loss";
        if (kind < 73) return "feature";
        if (kind < 82) return "bound";
        if (kind < 91) return "value";
        return "rows";
    }

    private static int call(HistogramTree x, String name, int a, int b) {
        switch (name) {
            case "row": return x.row(a, b);
            case "retarget": return x.retarget(a, b);
            case "train": return x.train();
            case "dropTree": return x.dropTree();
            case "clear": x.clear(); return 0;
            case "predict": return x.predict(a);
            case "rest": return x.rest(a);
            case "loss": return x.loss();
            case "feature": return x.feature(a, b);
            case "bound": return x.bound(a, b);
            case "value": return x.value(a, b);
            default: return x.rows(a, b);
        }
    }

    private record Row(int[] features, int[] target) { }

    private record Node(int f, int b, int value, int rows, boolean leaf) { }

    /** A fraction with a bottom above 0. */
    private record Fraction(BigInteger top, BigInteger bottom) {
        static Fraction square(int s, int n) {
            return new Fraction(BigInteger.valueOf(s).pow(2), BigInteger.valueOf(n));
        }

        Fraction plus(Fraction other) {
            return new Fraction(top.multiply(other.bottom).add(other.top.multiply(bottom)), bottom.multiply(other.bottom));
        }

        Fraction minus(Fraction other) {
            return plus(new Fraction(other.top.negate(), other.bottom));
        }

        boolean above(Fraction other) {
            return top.multiply(other.bottom).compareTo(other.top.multiply(bottom)) > 0;
        }
    }

    private static final class Model {
        final int leafSize;
        final List<Row> rows = new ArrayList<>();
        final List<Node[]> trees = new ArrayList<>();

        Model(int leafSize) {
            this.leafSize = Math.min(12, Math.max(1, leafSize));
        }

        int call(String name, int a, int b) {
            switch (name) {
                case "row": return row(a, b);
                case "retarget": return retarget(a, b);
                case "train": return train();
                case "dropTree":
                    if (trees.isEmpty()) return -7;
                    trees.remove(trees.size() - 1);
                    return trees.size();
                case "clear":
                    rows.clear();
                    trees.clear();
                    return 0;
                case "predict": return predict(unpack(a));
                case "rest": return a < 0 || a >= rows.size() ? 0 : rest(rows.get(a));
                case "loss": return rows.stream().mapToInt(r -> rest(r) * rest(r)).sum();
                default: return query(name, a, b);
            }
        }

        int row(int features, int target) {
            if (Math.abs(target) > 50) return -2;
            if (rows.size() == 24) return -3;
            rows.add(new Row(unpack(features), new int[] {target}));
            return rows.size();
        }

        int retarget(int i, int target) {
            if (i < 0 || i >= rows.size()) return -5;
            if (Math.abs(target) > 50) return -2;
            int old = rows.get(i).target[0];
            rows.get(i).target[0] = target;
            return old;
        }

        int query(String name, int tree, int node) {
            if (tree < 0 || tree >= trees.size() || node < 0 || node > 6) return name.equals("value") ? 0 : -5;
            Node at = trees.get(tree)[node];
            if (name.equals("rows")) return at == null ? 0 : at.rows;
            if (name.equals("value")) return at == null || !at.leaf ? 0 : at.value;
            if (at == null) return -7;
            if (at.leaf) return -6;
            return name.equals("feature") ? at.f : at.b;
        }

        static int[] unpack(int features) {
            return new int[] {features & 7, (features >> 3) & 7, (features >> 6) & 7};
        }

        int rest(Row row) {
            return row.target[0] - predict(row.features);
        }

        int predict(int[] features) {
            int sum = 0;
            for (Node[] tree : trees) {
                int at = 0;
                while (!tree[at].leaf) {
                    at = 2 * at + (features[tree[at].f] <= tree[at].b ? 1 : 2);
                }
                sum += tree[at].value;
            }
            return sum;
        }

        int train() {
            if (trees.size() == 4) return -3;
            Node[] tree = new Node[7];
            int leaves = grow(tree, 0, rows);
            trees.add(tree);
            return leaves;
        }

        int sum(List<Row> some) {
            return some.stream().mapToInt(this::rest).sum();
        }

        int grow(Node[] tree, int at, List<Row> some) {
            int n = some.size();
            int s = sum(some);
            Fraction best = new Fraction(BigInteger.ZERO, BigInteger.ONE);
            List<Row> bestLeft = null;
            List<Row> bestRight = null;
            for (int f = 0; f < 3 && at < 3; f++) {
                for (int b = 0; b <= 6; b++) {
                    List<Row> left = new ArrayList<>();
                    List<Row> right = new ArrayList<>();
                    for (Row row : some) {
                        (row.features[f] <= b ? left : right).add(row);
                    }
                    if (left.size() < leafSize || right.size() < leafSize) continue;
                    Fraction gain = Fraction.square(sum(left), left.size())
                        .plus(Fraction.square(sum(right), right.size())).minus(Fraction.square(s, n));
                    if (gain.above(best)) {
                        best = gain;
                        bestLeft = left;
                        bestRight = right;
                        tree[at] = new Node(f, b, 0, n, false);
                    }
                }
            }
            if (bestLeft == null) {
                tree[at] = new Node(0, 0, n == 0 ? 0 : s / n, n, true);
                return 1;
            }
            return grow(tree, 2 * at + 1, bestLeft) + grow(tree, 2 * at + 2, bestRight);
        }
    }
}
