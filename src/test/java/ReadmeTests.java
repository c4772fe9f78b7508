import java.nio.file.Files;
import java.nio.file.Path;
import java.util.Arrays;
import java.util.LinkedHashMap;
import java.util.List;
import java.util.Map;
import java.util.TreeSet;
import java.util.function.IntBinaryOperator;
import java.util.regex.Matcher;
import java.util.regex.Pattern;

/** What README.md tells of the class is what the class does. */
public final class ReadmeTests {
    private static final String NEVER = "never";

    private static final int[] AROUND_ROWS = {Integer.MIN_VALUE, -1, 24, 25, Integer.MAX_VALUE};
    private static final int[] AROUND_TREES = {Integer.MIN_VALUE, -1, 4, 5, Integer.MAX_VALUE};
    private static final int[] AROUND_NODES = {Integer.MIN_VALUE, -1, 7, 8, Integer.MAX_VALUE};
    private static final int[] AROUND_TARGETS = {Integer.MIN_VALUE, -51, 51, Integer.MAX_VALUE};

    private static int wrong = 0;

    public static void main(String[] args) throws Exception {
        String readme = Files.readString(Path.of("README.md"));
        example(readme);
        table(readme);
        check(readme.contains(".ci/run"), "README.md does not tell how the tests are run");
        for (Path test : tests()) {
            String name = test.getFileName().toString().replace(".java", "");
            check(readme.contains("`" + name + "`"), "README.md does not tell of " + name);
        }
        System.out.println(wrong == 0 ? "README.md is as due" : wrong + " faults");
        if (wrong != 0) {
            System.exit(1);
        }
    }

    private static void check(boolean holds, String fault) {
        if (!holds) {
            wrong++;
            System.out.println(fault);
        }
    }

    private static List<Path> tests() throws Exception {
        try (var files = Files.list(Path.of("src/test/java"))) {
            return files.filter(file -> file.toString().endsWith(".java")).toList();
        }
    }

    // The example: the same calls here, and each answer against the one its comment begins with.

    private static void example(String readme) {
        HistogramTree trees = new HistogramTree(1);
        Map<String, Integer> answers = new LinkedHashMap<>();
        answers.put("trees.row(2 | 1 << 3 | 0 << 6, -3);", trees.row(2 | 1 << 3 | 0 << 6, -3));
        answers.put("trees.row(6 | 5 << 3 | 7 << 6, 3);", trees.row(6 | 5 << 3 | 7 << 6, 3));
        answers.put("trees.loss();", trees.loss());
        answers.put("trees.train();", trees.train());
        answers.put("trees.feature(0, 0);", trees.feature(0, 0));
        answers.put("trees.bound(0, 0);", trees.bound(0, 0));
        answers.put("trees.feature(0, 1);", trees.feature(0, 1));
        answers.put("trees.value(0, 1);", trees.value(0, 1));
        answers.put("trees.predict(7);", trees.predict(7));
        answers.put("trees.retarget(1, 10);", trees.retarget(1, 10));
        answers.put("trees.rest(1);", trees.rest(1));
        answers.put("trees.dropTree();", trees.dropTree());
        answers.put("trees.row(0, 51);", trees.row(0, 51));

        Map<String, Integer> told = new LinkedHashMap<>();
        Matcher lines = Pattern.compile("(?m)^(trees\\..*?;) *// (-?\\d+):").matcher(readme);
        while (lines.find()) {
            told.put(lines.group(1), Integer.parseInt(lines.group(2)));
        }
        check(readme.contains("HistogramTree trees = new HistogramTree(1);"), "the example makes another object");
        check(List.copyOf(told.keySet()).equals(List.copyOf(answers.keySet())),
            "the example's calls are " + told.keySet() + ", those of this test " + answers.keySet());
        answers.forEach((call, answer) ->
            check(answer.equals(told.get(call)), call + " answered " + answer + ", README.md tells " + told.get(call)));
    }

    // The table: what the calls answer when refused, against its last column.

    private static void table(String readme) {
        Map<String, String> told = new LinkedHashMap<>();
        Matcher lines = Pattern.compile("(?m)^\\| `(\\w+)\\(.*\\| (.*?) \\|$").matcher(readme);
        while (lines.find()) {
            told.put(lines.group(1), lines.group(2).replace("`", ""));
        }
        Map<String, String> refusals = new LinkedHashMap<>();
        refusals.put("row", refusedRow());
        refusals.put("retarget", refusedRetarget());
        refusals.put("train", nameOf(full().train()));
        refusals.put("dropTree", nameOf(new HistogramTree(1).dropTree()));
        refusals.put("clear", NEVER);
        refusals.put("predict", NEVER);
        refusals.put("rest", refusedRest());
        refusals.put("loss", NEVER);
        HistogramTree x = full();
        refusals.put("feature", refusedQuery(x::feature));
        refusals.put("bound", refusedQuery(x::bound));
        refusals.put("value", refusedQuery(x::value));
        refusals.put("rows", refusedQuery(x::rows));
        check(List.copyOf(told.keySet()).equals(List.copyOf(refusals.keySet())), "the table tells of " + told.keySet());
        refusals.forEach((call, refusal) ->
            check(refusal.equals(told.get(call)), call + " refuses by " + refusal + ", README.md tells " + told.get(call)));
    }

    /** 24 rows whose rests are not 0, and four trees of one leaf that is not 0 either. */
    private static HistogramTree full() {
        HistogramTree x = new HistogramTree(12);
        for (int i = 0; i < 24; i++) {
            x.row(0, 10);
        }
        for (int tree = 0; tree < 4; tree++) {
            x.train();
            for (int i = 0; i < 24; i++) {
                x.retarget(i, 20 + 5 * tree);
            }
        }
        return x;
    }

    /** Both faults at once tell which is tested first. */
    private static String refusedRow() {
        TreeSet<String> both = new TreeSet<>();
        for (int target : AROUND_TARGETS) {
            both.add(nameOf(full().row(0, target)));
        }
        return String.join("/", both) + ", " + nameOf(full().row(0, 0));
    }

    private static String refusedRetarget() {
        TreeSet<String> both = new TreeSet<>();
        TreeSet<String> targetAlone = new TreeSet<>();
        HistogramTree x = full();
        for (int target : AROUND_TARGETS) {
            for (int i : AROUND_ROWS) {
                both.add(nameOf(x.retarget(i, target)));
            }
            targetAlone.add(nameOf(x.retarget(0, target)));
        }
        return String.join("/", both) + ", " + String.join("/", targetAlone);
    }

    private static String refusedRest() {
        TreeSet<String> seen = new TreeSet<>();
        HistogramTree x = full();
        Arrays.stream(AROUND_ROWS).forEach(i -> seen.add(nameOf(x.rest(i))));
        return String.join("/", seen);
    }

    private static String refusedQuery(IntBinaryOperator query) {
        TreeSet<String> seen = new TreeSet<>();
        Arrays.stream(AROUND_TREES).forEach(tree -> seen.add(nameOf(query.applyAsInt(tree, 0))));
        Arrays.stream(AROUND_NODES).forEach(node -> seen.add(nameOf(query.applyAsInt(0, node))));
        return String.join("/", seen);
    }

    private static String nameOf(int answer) {
        switch (answer) {
            case -1: return "BAD_FEATURE";
            case -2: return "BAD_TARGET";
            case -3: return "FULL";
            case -4: return "BAD_SIZE";
            case -5: return "BAD_NODE";
            case -6: return "LEAF";
            case -7: return "EMPTY";
            default: return "" + answer;
        }
    }
}
