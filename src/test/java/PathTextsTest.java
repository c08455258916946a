import java.util.TreeSet;

/**
 * Paths and spoilt paths made by a fixed rule: those are taken that the document's grammar, followed here
 * word by word with every way to go on, reads to the end.
 */
public final class PathTextsTest {
    private static final String[] PIECES = {
        "/", "//", ".", "..", "*", "@", "a", "b-1", "text()", "node()", "comment()", "child::", "parent::", "ancestor-or-self::",
        "attribute::", "foo::", "[", "]", "[1]", "[", "]", "(", ")", "=", "!=", "<", ">", "+", "-", "1", "123456", "7", "'x'", "''", "'",
        "position()", "last()", "count(", "not(", ")", "position", "count", " ", "!", ":", "[a]", "[.=", "foo(", "text" };
    private static final String AXES = " child descendant parent ancestor self attribute following-sibling preceding-sibling"
        + " following preceding descendant-or-self ancestor-or-self ";

    private final String text;

    private PathTextsTest(String text) {
        this.text = text;
    }

    public static void main(String[] args) {
        int rounds = args.length > 0 ? Integer.parseInt(args[0]) : 300000;
        long seed = args.length > 1 ? Long.parseLong(args[1]) : 1;
        int taken = 0;
        Run run = Run.of("<a x='1'>t<b>2</b></a>");
        for (int round = 0; round < rounds; round++) {
            StringBuilder made = new StringBuilder();
            seed = next(seed);
            for (int left = 1 + pick(seed, 9); left > 0; left--) {
                seed = next(seed);
                made.append(PIECES[pick(seed, PIECES.length)]);
            }
            if (made.length() > 120) {
                continue;
            }
            String path = made.toString();
            boolean due = new PathTextsTest(path).isPath();
            taken += due ? 1 : 0;
            run.put(path);
            boolean got = true;
            try {
                run.store.query(0);
            } catch (IllegalArgumentException e) {
                got = false;
            }
            Run.due("whether " + path + " is a path", got, due);
        }
        System.out.println(taken + " of " + rounds + " are paths");
        Run.due("enough paths", taken > rounds / 50, true);
        Run.end("PathTextsTest");
    }

    private static long next(long seed) {
        return seed * 6364136223846793005L + 1442695040888963407L;
    }

    private static int pick(long seed, int n) {
        return (int) ((seed >>> 33) % n);
    }

    private boolean isPath() {
        return path(0, 0).contains(text.length());
    }

    private boolean at(int i, String word) {
        return i <= text.length() && text.startsWith(word, i);
    }

    private static TreeSet<Integer> none() {
        return new TreeSet<>();
    }

    private static TreeSet<Integer> one(int i) {
        TreeSet<Integer> ends = none();
        ends.add(i);
        return ends;
    }

    private TreeSet<Integer> behind(TreeSet<Integer> ends, String word) {
        TreeSet<Integer> next = none();
        for (int i : ends) {
            if (at(i, word)) {
                next.add(i + word.length());
            }
        }
        return next;
    }

    private TreeSet<Integer> path(int i, int nested) {
        TreeSet<Integer> ends = none();
        if (at(i, "/")) {
            ends.add(i + 1);
            ends.addAll(relative(i + 1, nested));
        }
        if (at(i, "//")) {
            ends.addAll(relative(i + 2, nested));
        }
        ends.addAll(relative(i, nested));
        return ends;
    }

    private TreeSet<Integer> relative(int i, int nested) {
        TreeSet<Integer> ends = none();
        for (int end : step(i, nested)) {
            ends.add(end);
            if (at(end, "/")) {
                ends.addAll(relative(end + 1, nested));
            }
            if (at(end, "//")) {
                ends.addAll(relative(end + 2, nested));
            }
        }
        return ends;
    }

    private TreeSet<Integer> step(int i, int nested) {
        TreeSet<Integer> ends = none();
        if (at(i, ".")) {
            ends.add(i + 1);
        }
        if (at(i, "..")) {
            ends.add(i + 2);
        }
        TreeSet<Integer> tests = test(i);
        if (at(i, "@")) {
            tests.addAll(test(i + 1));
        }
        int name = nameEnd(i);
        if (name > i && at(name, "::") && AXES.contains(" " + text.substring(i, name) + " ")) {
            tests.addAll(test(name + 2));
        }
        for (int end : tests) {
            ends.addAll(predicates(end, nested));
        }
        return ends;
    }

    private TreeSet<Integer> predicates(int i, int nested) {
        TreeSet<Integer> ends = one(i);
        if (at(i, "[") && nested < 4) {
            for (int end : behind(expr(i + 1, nested + 1), "]")) {
                ends.addAll(predicates(end, nested));
            }
        }
        return ends;
    }

    private TreeSet<Integer> test(int i) {
        TreeSet<Integer> ends = none();
        if (at(i, "*")) {
            ends.add(i + 1);
        }
        for (String word : new String[] { "text()", "comment()", "node()" }) {
            if (at(i, word)) {
                ends.add(i + word.length());
            }
        }
        int name = nameEnd(i);
        if (name > i && !at(name, "(") && !at(name, "::")) {
            ends.add(name);
        }
        return ends;
    }

    private int nameEnd(int i) {
        if (i >= text.length() || !Character.isLetter(text.charAt(i))) {
            return i;
        }
        int end = i + 1;
        while (end < text.length() && (Character.isLetterOrDigit(text.charAt(end)) || "-_".indexOf(text.charAt(end)) >= 0)) {
            end++;
        }
        return end;
    }

    private TreeSet<Integer> expr(int i, int nested) {
        TreeSet<Integer> ends = sum(i, nested);
        for (String sign : new String[] { "=", "!=", "<", ">" }) {
            for (int end : behind(sum(i, nested), sign)) {
                ends.addAll(sum(end, nested));
            }
        }
        return ends;
    }

    private TreeSet<Integer> sum(int i, int nested) {
        TreeSet<Integer> ends = none();
        for (int end : value(i, nested)) {
            ends.add(end);
            if (at(end, "+") || at(end, "-")) {
                ends.addAll(sum(end + 1, nested));
            }
        }
        return ends;
    }

    private TreeSet<Integer> value(int i, int nested) {
        TreeSet<Integer> ends = path(i, nested);
        for (int n = 0; n < 6 && i + n < text.length() && Character.isDigit(text.charAt(i + n)); n++) {
            ends.add(i + n + 1);
        }
        if (at(i, "'") && text.indexOf('\'', i + 1) > 0) {
            ends.add(text.indexOf('\'', i + 1) + 1);
        }
        ends.addAll(behind(one(i), "position()"));
        ends.addAll(behind(one(i), "last()"));
        if (nested < 4 && at(i, "count(")) {
            ends.addAll(behind(path(i + 6, nested + 1), ")"));
        }
        if (nested < 4 && at(i, "not(")) {
            ends.addAll(behind(expr(i + 4, nested + 1), ")"));
        }
        return ends;
    }
}
