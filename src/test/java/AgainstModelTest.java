import java.util.Random;
import java.util.TreeMap;

/**
 * Runs of calls made by a fixed rule, right and wrong ones, on a store and on the plain model: every answer,
 * every exception, and all that can be seen behind each call must be the same.
 */
public final class AgainstModelTest {
    private static final String[] AXES = {
        "child", "descendant", "parent", "ancestor", "self", "attribute", "following-sibling", "preceding-sibling",
        "following", "preceding", "descendant-or-self", "ancestor-or-self" };
    private static final String[] TEXTS = {
        "1", "2", "3", "-1", " 2 ", "x", "y z", "1x", "&lt;", "&amp;", "12", "&quot;", "-", "&gt;&apos;", "\n", "]]>", "123456789" };
    private static final String[] SPOILS = {
        "<", ">", "/", "=", "\"", "'", "&", ";", "!", "-", "--", "?", " ", "\n", "a", "x", "1", "D", "[", "]", "<?", "<!D", "<![", "<a",
        "</a>",
        "&lt", "&x;", "<!--", "-->", "/>", "<b/>", " x=''", "(", ")", "::", "..", "//", "[1]", "not(", "'", "+", "1234567", "@", "*" };
    private static final int[] NUMBERS = { -1, 30, 31, 32, 33, Integer.MIN_VALUE, Integer.MAX_VALUE, -32, 1 << 30 };

    private final Random random;
    private final TreeMap<String, Integer> seen = new TreeMap<>();
    private Run run;
    private Model model;

    private AgainstModelTest(long seed) {
        random = new Random(seed);
    }

    public static void main(String[] args) {
        int rounds = args.length > 0 ? Integer.parseInt(args[0]) : 1500;
        AgainstModelTest test = new AgainstModelTest(args.length > 1 ? Long.parseLong(args[1]) : 1);
        for (int round = 0; round < rounds; round++) {
            test.oneRun();
        }
        System.out.println(test.seen);
        for (String call : new String[] { "load", "insert", "delete", "rename", "query" }) {
            Run.due("answers of " + call, test.seen.getOrDefault(call, 0) > rounds / 2, true);
        }
        Run.end("AgainstModelTest");
    }

    private void oneRun() {
        run = new Run();
        model = new Model();
        for (int turn = 0; turn < 24; turn++) {
            if (turn == 0 || pick(10) == 0) {
                same("load", typed(turn > 0 && pick(3) == 0 ? spoilt(document()) : document()), run.load(), model.load());
            } else {
                change();
            }
            sameState();
            ask();
            ask();
        }
    }

    private void change() {
        int p = node();
        switch (pick(4)) {
            case 0:
                same("delete", "(" + p + ")", run.delete(p), model.delete(p));
                break;
            case 1:
                String name = typed(pick(4) == 0 ? spoilt(name()) : name());
                same("rename", name + "(" + p + ")", run.rename(p), model.rename(p));
                break;
            default:
                String piece = typed(pick(6) == 0 ? spoilt(piece()) : piece());
                int where = pick(20) == 0 ? NUMBERS[pick(NUMBERS.length)] : pick(25) == 0 ? 4 : pick(4);
                same("insert", piece + "(" + p + ", " + where + ")", run.insert(p, where), model.insert(p, where));
                break;
        }
    }

    private void ask() {
        int p = node();
        String path = typed(pick(8) == 0 ? spoilt(path(0)) : path(0));
        String due;
        try {
            due = model.query(p);
        } catch (ModelPath.TooDear e) {
            model.wipe();
            run.store.wipe();
            return;
        }
        same("query", path + "(" + p + ") of " + model.printed(), run.query(p), due);
        for (int k = -1; k < 31; k++) {
            Run.due("result(" + k + ") of " + path, run.result(k), model.result(k));
        }
    }

    private void same(String call, String with, String got, String due) {
        Run.due(call + " " + with, got, due);
        seen.merge(due.startsWith("throws") ? call + " " + due : call, 1, Integer::sum);
        if (due.startsWith("throws") && pick(3) > 0) {
            run.store.wipe();
            model.wipe();
        }
    }

    private void sameState() {
        Run.due("nodes()", run.store.nodes(), model.nodes());
        Run.due("all nodes", run.all(), model.all());
        Run.due("print", run.print(), model.printed());
        Run.due("result(0)", run.result(0), model.result(0));
        int p = node();
        int k = pick(5) == 0 ? NUMBERS[pick(NUMBERS.length)] : pick(12);
        Run.due("kind " + p, run.store.kind(p), model.kind(p));
        Run.due("size " + p, run.store.size(p), model.size(p));
        Run.due("level " + p, run.store.level(p), model.level(p));
        Run.due("name " + p + ", " + k, run.store.name(p, k), model.name(p, k));
        Run.due("value " + p + ", " + k, run.store.value(p, k), model.value(p, k));
        Run.due("print " + k, run.store.print(k), model.print(k));
    }

    /** Types the text behind what the buffer has, with zeros in between, as far as there is room. */
    private String typed(String text) {
        for (int i = 0; i < text.length();) {
            long eight = 0;
            for (int n = 0; n < 8 && i < text.length(); n++) {
                boolean zero = pick(30) == 0;
                eight = eight << 8 | (zero ? 0 : text.charAt(i));
                i += zero ? 0 : 1;
            }
            Run.due("type " + eight, run.store.type(eight), model.type(eight));
        }
        if (pick(20) == 0) {
            long eight = random.nextLong() & (pick(2) == 0 ? -1L : 0x7f7f7f7f7f7f7f7fL);
            Run.due("type " + eight, run.store.type(eight), model.type(eight));
        }
        return text;
    }

    private int node() {
        return pick(15) == 0 ? NUMBERS[pick(NUMBERS.length)] : pick(model.nodes() + (pick(10) == 0 ? 1 : 0));
    }

    private int pick(int n) {
        return random.nextInt(n);
    }

    private String pickOf(String[] all) {
        return all[pick(all.length)];
    }

    private String spoilt(String text) {
        int first = pick(text.length() + 1);
        int end = Math.min(text.length(), first + pick(3));
        switch (pick(5)) {
            case 0: return text.substring(0, first);
            case 1: return text.substring(first);
            default: return text.substring(0, first) + pickOf(SPOILS) + text.substring(end);
        }
    }

    private String document() {
        switch (pick(5)) {
            case 0: return outside() + full() + outside();
            case 1: return outside() + deep() + outside();
            default: return outside() + element(0) + outside();
        }
    }

    private String outside() {
        return pick(4) > 0 ? "" : pick(2) > 0 ? " \n" : "<!--" + name() + "-->" + outside();
    }

    /** About as many nodes as there is room for. */
    private String full() {
        StringBuilder text = new StringBuilder("<a>");
        for (int nodes = 26 + pick(6); nodes > 2; nodes--) {
            text.append(nodes % 2 == 0 ? "1" : pick(4) == 0 ? "<!---->" : "<b/>");
        }
        return text.append("</a>").toString();
    }

    /** About as deep as there is room for. */
    private String deep() {
        int depth = 6 + pick(4);
        return "<a>".repeat(depth - 1) + element(9) + "</a>".repeat(depth - 1);
    }

    private String piece() {
        return pick(2) == 0 ? content() : pick(4) == 0 ? "<!--" + content() + "-->" : element(2);
    }

    private String content() {
        return pickOf(TEXTS) + (pick(4) == 0 ? content() : "");
    }

    private String element(int depth) {
        String name = name();
        StringBuilder text = new StringBuilder("<" + name);
        for (int i = pick(4) == 0 ? pick(4) : 0; i > 0; i--) {
            String quote = pick(2) == 0 ? "\"" : "'";
            text.append(pick(6) == 0 ? "\n " : " ").append(pickOf(new String[] { "x", "y", "a", "xx" }));
            text.append("=").append(quote).append(pick(4) == 0 ? "" : content()).append(quote);
        }
        text.append(pick(5) == 0 ? " " : "");
        int parts = depth > 8 ? pick(2) : pick(depth > 2 ? 3 : 5);
        if (parts == 0 && pick(2) == 0) {
            return text.append("/>").toString();
        }
        text.append(">");
        for (int i = 0; i < parts; i++) {
            int sort = pick(9);
            text.append(sort < 4 ? content() : sort == 4 ? "<!--" + name() + "-->" : depth > 8 ? "2" : element(depth + 1));
        }
        return text.append("</").append(name).append(pick(9) == 0 ? "\n>" : ">").toString();
    }

    private String name() {
        return pick(9) == 0 ? "a" + pickOf(new String[] { "-", "_1", "B", "x-y" }) : pickOf(new String[] { "a", "b", "c" });
    }

    private String path(int nested) {
        int sort = pick(10);
        if (sort == 0) {
            return "/";
        }
        StringBuilder path = new StringBuilder(sort < 3 ? "/" : sort < 6 ? "//" : "");
        path.append(step(nested));
        while (pick(3) == 0) {
            path.append(pick(3) == 0 ? "//" : "/").append(step(nested));
        }
        return path.toString();
    }

    private String step(int nested) {
        int sort = pick(12);
        if (sort == 0) {
            return ".";
        }
        if (sort == 1) {
            return "..";
        }
        StringBuilder step = new StringBuilder(sort < 4 ? "@" : sort < 8 ? pickOf(AXES) + "::" : "");
        boolean attribute = step.toString().startsWith("@") || step.toString().startsWith("attribute");
        String[] tests = { attribute ? "x" : "b", attribute ? "y" : "a", "*", "*", "node()", "node()", "text()", "comment()" };
        step.append(pickOf(tests));
        while (nested < 5 && pick(5 + 2 * nested) < 2) {
            step.append("[").append(expr(nested + 1)).append("]");
        }
        return step.toString();
    }

    private String expr(int nested) {
        return pick(2) == 0 ? sum(nested) : sum(nested) + pickOf(new String[] { "=", "!=", "<", ">" }) + sum(nested);
    }

    private String sum(int nested) {
        String first = value(nested);
        return pick(4) > 0 ? first : first + (pick(2) == 0 ? "+" : "-") + value(nested);
    }

    private String value(int nested) {
        switch (pick(10)) {
            case 0: return "last()";
            case 1: return "position()";
            case 2: return "'" + pickOf(TEXTS) + "'";
            case 3: return nested < 5 ? "count(" + path(nested + 1) + ")" : "1";
            case 4: return nested < 5 ? "not(" + expr(nested + 1) + ")" : "''";
            case 5:
            case 6: return String.valueOf(pick(4));
            default: return path(nested);
        }
    }
}
