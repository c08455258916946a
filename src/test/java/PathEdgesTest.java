import java.util.ArrayList;
import java.util.List;

/** The edges of what is a path, and of promises 8 and 9, a sentence at a time. */
public final class PathEdgesTest {
    private static final String BAD = "throws.IllegalArgumentException";
    private static final String INDEX = "throws.IndexOutOfBoundsException";
    private static final String[] AXES = {
        "child", "descendant", "parent", "ancestor", "self", "attribute", "following-sibling", "preceding-sibling", "following",
        "preceding",
        "descendant-or-self", "ancestor-or-self" };

    public static void main(String[] args) {
        noBlanks();
        paths();
        relatives();
        steps();
        axes();
        axisNames();
        tests();
        predicates();
        exprs();
        sums();
        numbers();
        literals();
        functions();
        shortForms();
        fourInOneAnother();
        fiveInOneAnother();
        besideOneAnother();
        words();
        longestNames();
        contextNode();
        howMany();
        oneAfterAnother();
        noNode();
        noPath();
        resultNumbers();
        resultNone();
        resultSinceChanges();
        Run.end("PathEdgesTest");
    }

    private static void taken(String... paths) {
        for (String path : paths) {
            Run run = Run.of("<a x='1'>t<b/></a>");
            Run.due("whether query takes " + path, run.query(path, 1).startsWith("throws"), false);
            Run.due("the buffer after " + path, run.bufferLength(), 0);
        }
    }

    private static void refused(String... paths) {
        for (String path : paths) {
            Run run = Run.of("<a x='1'>t<b/></a>");
            run.query("//node()", 0);
            Run.due("query " + path, run.query(path, 1), BAD);
            Run.due("results after " + path, run.results(), " 1 3 4");
            Run.due("the buffer after " + path, run.bufferLength(), path.length());
        }
    }

    private static void gives(String document, String path, int p, String nodes) {
        Run.due("query " + path + " from " + p + " of " + document, Run.of(document).query(path, p), nodes);
    }

    private static void noBlanks() {
        Run.says("PATHS (no blanks in them).");
        String[] paths = { "/", "//a", "/a//b", "./..", "ancestor-or-self::node()[1]", "@x", "a[b[1]+2!=count(//c)-last()]",
            "*[not(position()<3)]" };
        for (String path : paths) {
            taken(path);
            for (int at = 0; at <= path.length(); at++) {
                refused(path.substring(0, at) + " " + path.substring(at), path.substring(0, at) + "\n" + path.substring(at));
            }
        }
    }

    private static void paths() {
        Run.says("path = /, or / relative, or // relative, or relative.");
        taken("/", "/a", "//a", "a", "/.", "//.", "/..", "//..", "/@x", "//@x", "/*", "//*", "/a/b", "//a//b");
        refused("", "//", "///", "///a", "////a", "/[1]", "//[1]", "/)", "/=", "/1", "//1", "/'a'", "/+/", "/-a", "a[//]", "a[/[1]]",
            "a[///b]");
        taken("a[/]", "a[/=/]", "a[/!=1]", "a[/<1]", "a[/>1]", "a[/+1]", "a[/-1]", "a[count(/)]", "a[not(/)]");
    }

    private static void relatives() {
        Run.says("relative = step, and any number of: / step, or // step.");
        taken("a", "a/b", "a//b", "//.".repeat(40), "a/b/c/d/e", "a//b//c//d//e", "./".repeat(59) + ".", ".//".repeat(39) + ".",
            "a/".repeat(59) + "a");
        refused("a/", "a//", "a///b", "/a/", "//a//", "a/b/", "a/b//", "./", ".//", "./".repeat(60), "a/[1]", "a//[1]", "a/1", "a/'x'");
    }

    private static void steps() {
        Run.says("step = . or .. or: test, with any number of predicates behind it, and before it nothing (axis child), "
            + "@ (axis attribute), or an axis and ::.");
        taken(".", "..", "a", "*", "@a", "@*", "child::a", "a[1]", "a[1][1]", "a" + "[1]".repeat(39), "@a[1]", "child::*[1][1]",
            "text()[1]");
        refused(".[1]", "..[1]", "...", "....", ".a", "..a", "a.", "a..", ".*", ".@a", "@", "@.", "@..", "@@a", "@[1]", "@child::a",
            "child::", "::a",
            "child::.", "child::..", "child::@a", "child::child::a", "child:a", "child:::a", "a[1].", "a[1]a", "[1]", "[1]a", "a[1]@b",
            "a[1]*");
        gives("<a x='1'><x/></a>", "x", 1, " 3");
        gives("<a x='1'><x/></a>", "@x", 1, " 2");
        gives("<a x='1'><x/></a>", "attribute::x", 1, " 2");
        gives("<a x='1'><x/></a>", "child::x", 1, " 3");
    }

    private static void axes() {
        Run.says("axis = child, descendant, parent, ancestor, self, attribute, following-sibling, preceding-sibling,");
        // 0 the document, 1 comment, 2 a, 3 x, 4 b, 5 text, 6 c, 7 y, 8 text, 9 d, 10 text, 11 e, 12 comment.
        String document = "<!--o--><a x='1'><b>t</b><c y='2'>u<d>v</d></c><e/></a><!--p-->";
        String[] due = { " 8 9", " 8 9 10", " 2", " 0 2", " 6", " 7", " 11", " 4", " 11 12", " 1 4 5", " 6 8 9 10", " 0 2 6" };
        for (int i = 0; i < AXES.length; i++) {
            gives(document, AXES[i] + "::node()", 6, due[i]);
        }
    }

    private static void axisNames() {
        Run.says("A name with :: behind it is an axis (no other than these is allowed)");
        for (String axis : AXES) {
            taken(axis + "::a", axis + "::*", axis + "::node()", axis + "::text()", axis + "::comment()", "a[" + axis + "::a]", axis);
            refused(axis + ":a", axis + ":aa", axis + ":a*", axis + "::", axis + "s::a", axis.toUpperCase() + "::a",
                axis.substring(1) + "::a", "-" + axis + "::a",
                axis + "-::a", "@" + axis + "::a", axis + "()::a");
        }
        refused("a::b", "text::a", "node::a", "count::a", "not::a", "namespace::a", "or-self::a", "sibling::a", "preceding-or-self::a",
            "following-or-self::a", "self-or-self::a", "descendant-or::a", "descendant-or-self-::a", "child::a::b", "a[b::c]", "a[not::c]");
    }

    private static void tests() {
        Run.says("test = NAME, or *, or text() or comment() or node().");
        taken("a", "A", "a1", "a-", "a_", "*", "text()", "comment()", "node()", "@text()", "@comment()", "@node()", "self::text()");
        refused("1", "-", "_a", "-a", "**", "*a", "a*", "a:b", "a:*", "*:a", "text(", "text)", "text(]", "text()(", "text())", "text(a)",
            "text('a')",
            "Text()", "TEXT()", "nodes()", "comments()", "processing-instruction()", "element()", "text().", "()", "(a)", "a()",
            "node()a", "#", "$a", "");
    }

    private static void predicates() {
        Run.says("predicate = [ expr ].");
        taken("a[1]", "a[b]", "a[1=1]", "a['']", "a[b[c]]", "a[.]", "a[..]");
        refused("a[", "a[]", "a]", "a[1", "a1]", "a[1]]", "a[[1]", "a[[1]]", "a[1][", "a[1][]", "a[1,2]", "a(1)", "a{1}", "a[b[1]",
            "a[b]c]");
    }

    private static void exprs() {
        Run.says("expr = sum, or sum = sum, sum != sum, sum < sum, sum > sum.");
        taken("a[1]", "a[1=1]", "a[1!=1]", "a[1<1]", "a[1>1]", "a[1+1=1-1]", "a[b=c]", "a['x'!='y']", "a[not(1=1)=not(1<1)]");
        refused("a[=]", "a[1=]", "a[=1]", "a[1==1]", "a[1=1=1]", "a[1=1!=1]", "a[1<1<1]", "a[1<=1]", "a[1>=1]", "a[1=<1]", "a[1!1]",
            "a[!1]", "a[1!]",
            "a[1!<1]", "a[1! =1]", "a[!=1]", "a[1!==1]", "a[1<>1]", "a[<1]", "a[1>]", "a[1|1]", "a[1&1]", "a[(1=1)=1]", "a=b", "a<b",
            "a!=b");
    }

    private static void sums() {
        Run.says("sum = value, and any number of + value or - value.");
        taken("a[1]", "a[1+1]", "a[1-1]", "a[1+1-1+1]", "a[" + "1+".repeat(58) + "1]", "a[" + "1-".repeat(58) + "1]", "a[b+c]", "a[.-.]",
            "a['x'+'y']",
            "a[count(b)-1]", "a[1-b]", "a[1-count(b)]", "a[@x-1]", "a[b-1]");
        refused("a[+]", "a[-]", "a[+1]", "a[-1]", "a[1+]", "a[1-]", "a[1++1]", "a[1--1]", "a[1+-1]", "a[1-+1]", "a[1*1]", "a[1=-1]",
            "a[-b]", "a[1/1]",
            "a[1+=1]", "a[1=+1]", "a+b", "a+1", "a-+1", ".-1", "1+1");
    }

    private static void numbers() {
        Run.says("NUMBER (1 .. 6 digits)");
        taken("a[0]", "a[1]", "a[9]", "a[12]", "a[123]", "a[1234]", "a[12345]", "a[123456]", "a[999999]", "a[000000]", "a[000001]",
            "a[1+999999]",
            "a[999999=999999]");
        refused("a[1234567]", "a[0000000]", "a[0000001]", "a[9999999]", "a[1+1234567]", "a[1=1234567]", "a[not(1234567)]",
            "a[123456789012]", "a[1.0]",
            "a[.5]", "a[1.]", "a[1a]", "a[1e5]", "a[0x1]", "a[1_0]", "a[1'1']", "a[1(]");
        gives("<a/>", "a[000001]", 0, " 1");
        gives("<a/>", "a[999999>999998]", 0, " 1");
        gives("<a/>", "a[999999-999998]", 0, " 1");
    }

    private static void literals() {
        Run.says("or ' any characters but ' and then '");
        taken("a['']", "a['x']", "a['\"']", "a['[']", "a[']']", "a['a]']", "a['1234567']", "a['&<>']", "a['//']",
            "a['" + "x".repeat(115) + "']",
            "a[''='']", "a['a'='b']", "a['a'+'b']", "a[' ']", "a['\n']");
        refused("a[']", "a['x]", "a[x']", "a[''']", "a['x''y']", "a['x'y]", "a[x'y']", "a[\"x\"]", "a[`x`]", "'x'", "''", "a['x'",
            "a['" + "x".repeat(117));
    }

    private static void functions() {
        Run.says("or position() or last() or count(path) or not(expr), or path.");
        taken("a[position()]", "a[last()]", "a[count(b)]", "a[count(/)]", "a[count(//b)]", "a[count(..)]", "a[not(1)]", "a[not(b=c)]",
            "a[not('')]",
            "a[not(not(1))]", "a[count(b[count(c)])]", "a[not(position()=last())]", "a[b]", "a[./b]", "a[position()-1]");
        refused("a[position(1)]", "a[position(.)]", "a[last(b)]", "a[count()]", "a[count(1)]", "a[count('x')]", "a[count(b=c)]",
            "a[count(b+c)]",
            "a[count(b,c)]", "a[count(position())]", "a[count(not(b))]", "a[count(count(b))]", "a[not()]", "a[not(1,2)]", "a[not 1]",
            "a[not(1]",
            "a[not1)]", "a[position(]", "a[position)]", "a[position()]]", "a[position()b]", "a[last()/b]", "a[last()[1]]", "a[count(b)/c]",
            "a[count(b)[1]]", "a[not(1)[1]]", "a[not(b)/c]", "a[b/position()]", "a[b/count(c)]", "a[@count(c)]", "a[/not(c)]",
            "a[child::last()]",
            "position()", "last()", "count(a)", "not(a)", "/position()", "//count(a)", "a/last()");
    }

    private static void shortForms() {
        Run.says("A . is self::node(), a .. is parent::node(), a // is / descendant-or-self::node() /.");
        String document = "<!--o--><a x='1'>t<b y='2'><c/>u</b></a>";
        String[][] same = {
            { ".", "self::node()" }, { "..", "parent::node()" }, { "//b", "/descendant-or-self::node()/b" }, { "//.",
            "/descendant-or-self::node()/." },
            { ".//c", "self::node()/descendant-or-self::node()/child::c" }, { "//@*", "/descendant-or-self::node()/attribute::*" },
            { "..//..", "parent::node()/descendant-or-self::node()/parent::node()" }, { "//node()[1]",
            "/descendant-or-self::node()/node()[1]" } };
        for (String[] pair : same) {
            for (int p = 0; p < 9; p++) {
                gives(document, pair[0], p, Run.of(document).query(pair[1], p));
            }
        }
        gives(document, "//node()[1]", 5, " 1 4 7");
        gives(document, "/descendant::node()[1]", 5, " 1");
        gives(document, ".//.", 3, " 3");
        gives(document, "..", 0, "");
        gives(document, "/..", 5, "");
    }

    /** All ways to have so many predicates, counts and nots in one another, the outermost a predicate. */
    private static List<String> nested(int depth) {
        List<String> all = new ArrayList<>();
        for (String inside : values(depth - 1)) {
            all.add("a[" + inside + "]");
        }
        return all;
    }

    private static List<String> values(int depth) {
        List<String> all = new ArrayList<>();
        if (depth == 0) {
            all.add("b");
            return all;
        }
        for (String inside : values(depth - 1)) {
            all.add("b[" + inside + "]");
            all.add("not(" + inside + ")");
            // A count can have a path in it, not a count or a not.
            if (!inside.startsWith("count") && !inside.startsWith("not")) {
                all.add("count(" + inside + ")");
            }
        }
        return all;
    }

    private static void fourInOneAnother() {
        Run.says("Predicates, count and not are at most 4 in one another");
        for (int depth = 1; depth <= 4; depth++) {
            for (String path : nested(depth)) {
                taken(path);
            }
        }
        Run.due("how many ways there are", nested(4).size(), 17);
    }

    private static void fiveInOneAnother() {
        Run.says("a fifth one is not allowed (at its [ or name).");
        for (int depth = 5; depth <= 7; depth++) {
            for (String path : nested(depth)) {
                refused(path);
            }
        }
        // position() and last() do not count, nor do ( and ) alone.
        taken("a[b[b[b[position()]]]]", "a[b[b[not(last())]]]", "a[not(not(not(text())))]");
        refused("a[b[b[b[b[position()]]]]]", "a[b[b[b[count(b)]]]]", "a[b[b[b[not(b)]]]]", "a[b[b[count(b[1])]]]",
            "a[not(not(not(b[1])))]", "a[b[b[b[1]/b[b[1]]]]]");
    }

    private static void besideOneAnother() {
        taken("a[1]/b[1]/c[1]/d[1]/e[1]/f[1]", "a[1][1][1][1][1][1]", "a[not(1)+not(1)+not(1)+not(1)+not(1)]",
            "a[count(b)-count(b)=count(b)-count(b)]",
            "a[b[b[b[1][1][1]]]]", "a[b[b[b[1]]]][b[b[b[1]]]]", "a[b[1]+b[1]+b[1]+b[1]+b[1]]");
    }

    private static void words() {
        Run.says("the words text, comment, node, position, last, count and not are what was said above when a ( is behind them");
        String document = "<a><text/><comment/><node/><position/><last/><count/><not/></a>";
        String[] words = { "text", "comment", "node", "position", "last", "count", "not" };
        for (int i = 0; i < words.length; i++) {
            gives(document, words[i], 1, " " + (i + 2));
            gives(document, "child::" + words[i], 1, " " + (i + 2));
            gives(document, "*[self::" + words[i] + "]", 1, " " + (i + 2));
            gives(document, "self::node()[" + words[i] + "]", 1, " 1");
            gives(document, "self::node()[" + words[i] + "=1]", 1, "");
        }
        Run.says("any other name with a ( behind it is not allowed.");
        refused("a()", "a(", "a(b)", "texts()", "tex()", "text-()", "text1()", "a[foo()]", "a[true()]", "a[false()]", "a[string(b)]",
            "a[number(b)]", "a[sum(b)]",
            "a[Position()]", "a[LAST()]", "a[counts(b)]", "a[nots(b)]", "a[not-(b)]", "a[id('x')]", "a[position-()]", "a[child()]",
            "child()", "a/b()");
    }

    private static void longestNames() {
        Run.says("As long a name as there can be is read.");
        String document = "<a b-1='3' b='2'><c-d/><c/>2</a>";
        gives(document, "a[@b-1=3]", 0, " 1");
        gives(document, "a[@b+0-1=1]", 0, " 1");
        gives(document, "a/c-d", 0, " 4");
        gives(document, "a[c-d]", 0, " 1");
        gives(document, "a[c-1]", 0, "");
        gives(document, "a[.-1=1]", 0, " 1");
        gives(document, "a[text()-1]", 0, " 1");
        gives("<" + "n".repeat(117) + "/>", "n".repeat(117), 0, " 1");
        gives("<" + "n".repeat(117) + "/>", "n".repeat(118), 0, "");
        gives("<" + "n".repeat(117) + "/>", "n".repeat(116), 0, "");
        gives("<a/>", "n".repeat(120), 0, "");
    }

    private static void contextNode() {
        Run.says("Takes the path in the buffer from node p as the context node; answers how many nodes it gives.");
        String document = "<!--o--><a x='1'>t<b/></a><!--p-->";
        for (int p = 0; p < 7; p++) {
            gives(document, ".", p, " " + p);
            gives(document, "/", p, " 0");
            gives(document, "//b", p, " 5");
        }
    }

    private static void howMany() {
        Run full = Run.of("<a>" + "<b/>".repeat(28) + "</a>");
        full.put("//.");
        Run.due("all thirty", full.query(29), 30);
        Run.due("result(29)", full.result(29), 29);
        Run.due("result(30)", full.result(30), INDEX);
        full.put("//c");
        Run.due("none", full.query(0), 0);
        Run run = new Run();
        run.put("//.");
        Run.due("of a new store", run.query(0), 1);
        for (String path : new String[] { "/", "//.", "self::node()[1]", "self::node()[1=1]", "self::node()[''=.]",
            "self::node()[.=..]" }) {
            Run.due("query " + path + " of a new store", new Run().query(path, 0), path.endsWith("..]") ? "" : " 0");
        }
    }

    /** What a query gives does not depend on the queries before it. */
    private static void oneAfterAnother() {
        String document = "<!--o--><a x='1' y='2'>3<b>4</b><c z='1'/>5</a>";
        String[] paths = {
            "/", "//.", "a", "//@*", "//*[1]", "//node()[last()]", "//node()[2][1]", "//*[@x=1]", "//*[not(@*)]", "//@*[.=1]",
            "//*[count(*)-1]",
            "//*[1+1=2]", "//*[3-2]", "//*['']", "//*['x'=.]", "//*[7>.+2-1]", "/a/b/following::*[1]", "..", "a[b[.=4]]/c", "//b[/a]",
            "//text()[.=5]",
            "preceding::node()[2]", "a[none]", "none", "//*[position()=last()]", "//b[not(c)+not(/)=1]", "//comment()", "a[", "//b[1]]" };
        for (String first : paths) {
            for (String second : paths) {
                Run run = Run.of(document);
                run.query(first, 8);
                String due = Run.of(document).query(second, 0);
                Run.due("query " + second + " behind " + first, run.query(second, 0), due);
            }
        }
        Run run = Run.of(document);
        for (int i = 0; i < 150; i++) {
            Run.due("query again", run.query("//*[1][.!=''][count(.)=1]", 0), " 2 6");
        }
    }

    private static void noNode() {
        Run.says("IndexOutOfBoundsException when there is no node p, then IllegalArgumentException when the buffer is no path.");
        for (int p : new int[] { -1, 2, 3, 29, 30, 31, 32, Integer.MIN_VALUE, Integer.MAX_VALUE }) {
            for (String path : new String[] { "/", "a", "", "a[", "1" }) {
                Run run = Run.of("<a/>");
                Run.due("query " + path + " from " + p, run.query(path, p), INDEX);
                Run.due("the buffer", run.bufferLength(), path.length());
            }
        }
        for (int p : new int[] { 30, 31, 32, -1 }) {
            Run.due("query from " + p + " of 30", Run.of("<a>" + "<b/>".repeat(28) + "</a>").query(".", p), INDEX);
        }
        Run.due("query from 1 of a new store", new Run().query("/", 1), INDEX);
    }

    private static void noPath() {
        for (String path : new String[] { "", " ", "1", "a[", "a]" }) {
            Run.due("query " + path + " of a new store", new Run().query(path, 0), BAD);
        }
    }

    private static void resultNumbers() {
        Run.says("The number of node k, from 0, in document order, of what the latest query gave (as they were numbered then).");
        Run run = Run.of("<a><b/>t<b/><b/></a>");
        run.query("//b", 0);
        Run.due("results", run.result(0) + run.result(1) + run.result(2), "245");
        run.query("preceding::node()", 5);
        Run.due("of a backward axis", run.result(0) + run.result(1) + run.result(2), "234");
        run.query("ancestor-or-self::node()", 5);
        Run.due("of a backward axis", run.result(0) + run.result(1) + run.result(2), "015");
        run.query("//b[3]", 0);
        Run.due("of the latest", run.result(0) + run.result(1), "5" + INDEX);
        Run.due("asked again", run.result(0), 5);
    }

    private static void resultNone() {
        Run.says("IndexOutOfBoundsException when there is none, or none since the beginning");
        for (int k : new int[] { -1, 0, 1, 29, 30, 31, 32, Integer.MIN_VALUE, Integer.MAX_VALUE }) {
            Run.due("result " + k + " of a new store", new Run().result(k), INDEX);
            Run.due("result " + k + " before a query", Run.of("<a/>").result(k), INDEX);
            Run run = Run.of("<a/>");
            run.query("none", 0);
            Run.due("result " + k + " of nothing", run.result(k), INDEX);
            run.query("a", 0);
            Run.due("result " + k + " of one", run.result(k), k == 0 ? "1" : INDEX);
        }
    }

    private static void resultSinceChanges() {
        Run.says("or the latest load, insert, delete or rename that answered.");
        String[] changes = { "load", "insert", "delete", "rename" };
        for (String change : changes) {
            Run run = Run.of("<a><b/>t</a>");
            run.query("//node()", 0);
            refuse(run, change);
            Run.due("results after a refused " + change, run.results(), " 1 2 3");
            answer(run, change);
            Run.due("result(0) after " + change, run.result(0), INDEX);
            run.query("a[", 0);
            Run.due("result(0) after a refused query behind " + change, run.result(0), INDEX);
            run.query("*", 0);
            Run.due("result(0) after a query behind " + change, run.result(0), 1);
        }
        Run run = Run.of("<a><b/>t</a>");
        run.query("//node()", 0);
        run.query("a[", 0);
        run.query("a", 9);
        run.put("xyz");
        run.print();
        Run.due("results after what changes nothing", run.results(), " 1 2 3");
    }

    private static void refuse(Run run, String change) {
        switch (change) {
            case "load": run.load("<a>"); break;
            case "insert": run.insert("<c>", 1, 0); break;
            case "delete": run.delete(1); break;
            default: run.rename("1", 1); break;
        }
    }

    private static void answer(Run run, String change) {
        switch (change) {
            case "load": run.load("<a><b/>t</a>"); break;
            case "insert": run.insert("u", 3, 3); break;
            case "delete": run.delete(3); break;
            default: run.rename("a", 1); break;
        }
    }
}
