/** The edges of what paths mean, of values and of how they are compared, a sentence at a time. */
public final class ValueEdgesTest {
    /** 0 the document, 1 comment, 2 a, 3 x, 4 y, 5 b, 6 text, 7 c, 8 z, 9 text, 10 b, 11 text, 12 comment. */
    private static final String SAMPLE = "<!--o--><a x='1' y='2'><b>5<c z='3'>6</c></b><b/>7</a><!--p-->";
    private static final int COUNT = 13;

    // Each has the value that its name says, in the document of isTrue.
    private static final String NONE = "'n'+0";
    private static final String TRUE = "not(0)";
    private static final String FALSE = "not(1)";
    private static final String EMPTY = "nothing";

    public static void main(String[] args) {
        beginnings();
        fromEachNode();
        emptySets();
        childrenAndDescendants();
        parentsAndAncestors();
        following();
        preceding();
        siblings();
        orSelf();
        namesAndStars();
        kindTests();
        positionForward();
        positionBackward();
        positionOfThoseLeft();
        numberPasses();
        noNumberPasses();
        textsAsNumbers();
        textsThatAreNone();
        booleansAsNumbers();
        setsAsNumbers();
        truth();
        sums();
        counts();
        noneCompared();
        setsAndBooleans();
        setsAndOthers();
        setsAndSets();
        othersEqual();
        othersOrdered();
        Run.end("ValueEdgesTest");
    }

    private static void gives(String path, int p, String nodes) {
        Run.due("query " + path + " from " + p, Run.of(SAMPLE).query(path, p), nodes);
    }

    private static void isTrue(String expr, boolean due) {
        Run run = Run.of("<a n='5' m='-5' e='' t='x'><b>1</b><b>2</b><b>x</b><c> 7\n</c></a>");
        Run.due("whether " + expr, run.query("/a[" + expr + "]", 0), due ? " 1" : "");
    }

    private static void all(boolean due, String... exprs) {
        for (String expr : exprs) {
            isTrue(expr, due);
        }
    }

    /** Of a pair of values: whether it is =, whether !=, whether < and whether >, as 1 or 0 each. */
    private static void compares(String left, String right, String due) {
        String[] signs = { "=", "!=", "<", ">" };
        for (int i = 0; i < 4; i++) {
            isTrue(left + signs[i] + right, due.charAt(i) == '1');
            // The other way round < and > change places.
            isTrue(right + signs[i] + left, due.charAt(i < 2 ? i : 5 - i) == '1');
        }
    }

    private static void beginnings() {
        Run.says("A path beginning with / begins at the document, else at the context node.");
        for (int p = 0; p < COUNT; p++) {
            gives("/", p, " 0");
            gives("/.", p, " 0");
            gives("/a", p, " 2");
            gives("//c", p, " 7");
            gives(".", p, " " + p);
            gives("self::node()[/a/b/c]", p, " " + p);
            gives("self::node()[count(/)=1]", p, " " + p);
        }
        gives("b", 2, " 5 10");
        gives("b", 5, "");
        gives("*[c]", 2, " 5");
        gives("*[/c]", 2, "");
    }

    private static void fromEachNode() {
        Run.says("A step from a set of nodes gives, for each node of it, the nodes of its axis that pass the test and then, "
            + "one after the other, its predicates; all these together are the next set.");
        gives("//node()/..", 0, " 0 2 5 7");
        gives("//*/node()[1]", 0, " 5 6 9");
        gives("//*/node()[last()]", 0, " 7 9 11");
        gives("//c/ancestor::node()/*", 0, " 2 5 7 10");
        gives("//b/following::node()[1]", 0, " 10 11");
        gives("//node()/preceding-sibling::node()[1]", 0, " 1 2 5 6 10");
        gives("//*[1][1]", 0, " 2 5 7");
        gives("//*[2][1]", 0, " 10");
        gives("//*[1][2]", 0, "");
    }

    private static void emptySets() {
        gives("none", 0, "");
        gives("none/..", 0, "");
        gives("none//node()", 0, "");
        gives("../..", 2, "");
        gives("none/ancestor-or-self::node()", 0, "");
        gives("none[1]", 0, "");
        gives("none/none[none]/none", 0, "");
    }

    private static void childrenAndDescendants() {
        Run.says("descendant: children, their children and so on (attributes never)");
        gives("child::node()", 0, " 1 2 12");
        gives("descendant::node()", 0, " 1 2 5 6 7 9 10 11 12");
        gives("child::node()", 2, " 5 10 11");
        gives("descendant::node()", 2, " 5 6 7 9 10 11");
        for (int p : new int[] { 1, 3, 4, 6, 8, 9, 10, 11, 12 }) {
            gives("child::node()", p, "");
            gives("descendant::node()", p, "");
        }
        gives("attribute::node()", 2, " 3 4");
        gives("attribute::node()", 7, " 8");
        for (int p : new int[] { 0, 1, 3, 5, 6, 8, 10, 12 }) {
            gives("attribute::node()", p, "");
        }
    }

    private static void parentsAndAncestors() {
        String[] ancestors = { "", " 0", " 0", " 0 2", " 0 2", " 0 2", " 0 2 5", " 0 2 5", " 0 2 5 7", " 0 2 5 7", " 0 2", " 0 2", " 0" };
        for (int p = 0; p < COUNT; p++) {
            gives("ancestor::node()", p, ancestors[p]);
            gives("parent::node()", p, ancestors[p].isEmpty() ? "" : ancestors[p].substring(ancestors[p].lastIndexOf(' ')));
        }
    }

    private static void following() {
        Run.says("following: all nodes behind it in document order but attributes and what is below it");
        String[] due = { "", " 2 5 6 7 9 10 11 12", " 12", " 5 6 7 9 10 11 12", " 5 6 7 9 10 11 12", " 10 11 12", " 7 9 10 11 12",
            " 10 11 12",
            " 9 10 11 12", " 10 11 12", " 11 12", " 12", "" };
        for (int p = 0; p < COUNT; p++) {
            gives("following::node()", p, due[p]);
        }
    }

    private static void preceding() {
        Run.says("preceding: all before it but attributes and its ancestors");
        String[] due = { "", "", " 1", " 1", " 1", " 1", " 1", " 1 6", " 1 6", " 1 6", " 1 5 6 7 9", " 1 5 6 7 9 10",
            " 1 2 5 6 7 9 10 11" };
        for (int p = 0; p < COUNT; p++) {
            gives("preceding::node()", p, due[p]);
        }
    }

    private static void siblings() {
        Run.says("an attribute has no siblings; ..-sibling: the other children of its parent behind or before it");
        String[] behind = { "", " 2 12", " 12", "", "", " 10 11", " 7", "", "", "", " 11", "", "" };
        String[] before = { "", "", " 1", "", "", "", "", " 6", "", "", " 5", " 5 10", " 1 2" };
        for (int p = 0; p < COUNT; p++) {
            gives("following-sibling::node()", p, behind[p]);
            gives("preceding-sibling::node()", p, before[p]);
        }
    }

    private static void orSelf() {
        Run.says("-or-self: with the node itself.");
        for (int p = 0; p < COUNT; p++) {
            gives("descendant-or-self::node()[1]", p, " " + p);
            gives("ancestor-or-self::node()[1]", p, " " + p);
            gives("self::node()", p, " " + p);
        }
        gives("descendant-or-self::node()", 8, " 8");
        gives("ancestor-or-self::node()", 8, " 0 2 5 7 8");
        gives("descendant-or-self::node()", 5, " 5 6 7 9");
        gives("ancestor-or-self::node()", 0, " 0");
        gives("descendant-or-self::*", 5, " 5 7");
        gives("ancestor-or-self::*", 8, " 2 5 7");
    }

    private static void namesAndStars() {
        Run.says("A NAME passes elements of this name (on the attribute axis: attributes), * all elements (attributes)");
        gives("//b", 0, " 5 10");
        gives("//B", 0, "");
        gives("//bb", 0, "");
        gives("//x", 0, "");
        gives("//@x", 0, " 3");
        gives("//@b", 0, "");
        gives("//@X", 0, "");
        gives("//*", 0, " 2 5 7 10");
        gives("//@*", 0, " 3 4 8");
        gives("self::x", 3, "");
        gives("self::*", 3, "");
        gives("self::*", 0, "");
        gives("self::a", 2, " 2");
        gives("ancestor-or-self::x", 3, "");
        gives("//@x/self::node()", 0, " 3");
        gives("//@x/..", 0, " 2");
    }

    private static void kindTests() {
        Run.says("text() texts, comment() comments, node() all.");
        gives("//text()", 0, " 6 9 11");
        gives("//comment()", 0, " 1 12");
        gives("//node()", 0, " 1 2 5 6 7 9 10 11 12");
        gives("//@node()", 0, " 3 4 8");
        gives("//@text()", 0, "");
        gives("//@comment()", 0, "");
        gives("self::text()", 6, " 6");
        gives("self::text()", 3, "");
        gives("self::comment()", 1, " 1");
        gives("self::text()", 1, "");
        gives("self::node()", 0, " 0");
        gives("ancestor::text()", 9, "");
    }

    private static void positionForward() {
        Run.says("with its POSITION (from 1, in document order");
        for (String axis : new String[] { "child", "descendant", "attribute", "descendant-or-self", "following-sibling", "following",
            "self" }) {
            for (int p = 0; p < COUNT; p++) {
                positions(axis, p, false);
            }
        }
        Run.says("and their number as LAST.");
        gives("/a/node()[last()]", 0, " 11");
        gives("/a/node()[last()=3]", 0, " 5 10 11");
        gives("/a/node()[last()-1]", 0, " 10");
        gives("/a/node()[last()+1]", 0, "");
        gives("/a/node()[last()-3]", 0, "");
        gives("/a[last()]", 0, " 2");
    }

    private static void positionBackward() {
        Run.says("but backwards for parent, ancestor, preceding-sibling, preceding, ancestor-or-self)");
        for (String axis : new String[] { "parent", "ancestor", "preceding-sibling", "preceding", "ancestor-or-self" }) {
            for (int p = 0; p < COUNT; p++) {
                positions(axis, p, true);
            }
        }
    }

    /** The node at each position, one before the first and one behind the last, from the list of all. */
    private static void positions(String axis, int p, boolean backward) {
        String given = Run.of(SAMPLE).query(axis + "::node()", p).trim();
        String[] nodes = given.isEmpty() ? new String[0] : given.split(" ");
        for (int position = 0; position <= nodes.length + 1; position++) {
            boolean none = position == 0 || position > nodes.length;
            String due = none ? "" : " " + nodes[backward ? nodes.length - position : position - 1];
            gives(axis + "::node()[" + position + "]", p, due);
            gives(axis + "::node()[position()=" + position + "]", p, due);
            gives(axis + "::node()[last()-" + nodes.length + "+" + position + "]", p, due);
        }
    }

    private static void positionOfThoseLeft() {
        Run.says("A predicate is looked at for each node that is left");
        gives("//node()[self::text()][1]", 0, " 6 9 11");
        gives("/descendant::node()[self::text()][2]", 0, " 9");
        gives("/descendant::node()[position()>2][1]", 0, " 5");
        gives("/descendant::node()[position()>2][position()>2][1]", 0, " 7");
        gives("/descendant::*[last()>3][last()]", 0, " 10");
        gives("/descendant::*[last()][last()]", 0, " 10");
        gives("/descendant::*[position()<last()][last()]", 0, " 7");
        gives("preceding::node()[position()>1][1]", 11, " 9");
        gives("preceding::node()[position()>1][last()]", 11, " 1");
        gives("ancestor::node()[position()<last()][last()]", 9, " 2");
        gives("/descendant::*[none][1]", 0, "");
        gives("/descendant::*[none][last()=0]", 0, "");
    }

    private static void numberPasses() {
        Run.says("It passes if the value of its expr is a number that is the position");
        gives("/a/node()[0]", 0, "");
        gives("/a/node()[1]", 0, " 5");
        gives("/a/node()[3]", 0, " 11");
        gives("/a/node()[4]", 0, "");
        gives("/a/node()[999999]", 0, "");
        gives("/a/node()[0-1]", 0, "");
        gives("/a/node()[1+1]", 0, " 10");
        gives("/a/node()[position()]", 0, " 5 10 11");
        gives("/a/node()[position()+1]", 0, "");
        gives("/a/node()[count(*)]", 0, " 5");
        gives("/a/node()['2'+0]", 0, " 10");
        gives("/a/node()['x'+0]", 0, "");
        gives("/a/node()[none+1]", 0, "");
        gives("/a/node()[" + TRUE + "+1]", 0, " 10");
    }

    private static void noNumberPasses() {
        Run.says("or no number and TRUE.");
        gives("/a/node()['2']", 0, " 5 10 11");
        gives("/a/node()['0']", 0, " 5 10 11");
        gives("/a/node()['']", 0, "");
        gives("/a/node()[/a/@y]", 0, " 5 10 11");
        gives("/a/node()[node()]", 0, " 5");
        gives("/a/node()[none]", 0, "");
        gives("/a/node()[not(0)]", 0, " 5 10 11");
        gives("/a/node()[not(7)]", 0, "");
        gives("/a/node()[1=1]", 0, " 5 10 11");
        gives("/a/node()[1=2]", 0, "");
    }

    private static void textsAsNumbers() {
        Run.says("AS A NUMBER: a text of blanks, a - or none, 1 .. 9 digits, blanks is that number");
        String[][] numbers = {
            { "0", "0" }, { "5", "5" }, { "05", "5" }, { "-5", "0-5" }, { "-0", "0" }, { " 5", "5" }, { "5 ", "5" }, { " 5 ", "5" },
            { "\n5\n", "5" },
            { " \n -5 \n ", "0-5" }, { "123456", "123456" }, { "000000000", "0" }, { "000000001", "1" }, { "-000000001", "0-1" },
            { "999999999", "999999999" }, { "-999999999", "-999999999" }, { "100000000", "100000000" } };
        for (String[] number : numbers) {
            String due = number[1].length() > 6 && !number[1].startsWith("0-") ? "'" + number[1] + "'+0" : number[1];
            compares("'" + number[0] + "'+0", due, "1000");
            isTrue("'" + number[0] + "'+0='" + number[0] + "'+0", true);
        }
        all(true, "'999999999'-'999999998'=1", "'999999999'+1='1'+'999999999'", "'999999999'>999999", "'-999999999'+'999999999'=0",
            "'-999999999'<0-999999", "c=7", "c+0-7=0");
    }

    private static void textsThatAreNone() {
        Run.says("another text is NONE");
        for (String none : new String[] {
            "", " ", "\n", "-", " - ", "--5", "- 5", "-\n5", "+5", "5-", "5-5", "5 5", "1 000", "5.0", "5.", ".5", "5x", "x5", "x", "0x5",
            "1e3", "1,000",
            "1000000000", "0000000000", "0000000001", "-1000000000", "9999999999", " 1234567890 ", "12345678901234567890",
            "-0000000005" }) {
            isTrue("'" + none + "'+0='" + none + "'+0", false);
            isTrue("'" + none + "'+0!='" + none + "'+0", true);
            isTrue("not('" + none + "'+1)", true);
            isTrue("'" + none + "'>0-999999", false);
            isTrue("'" + none + "'<999999", false);
        }
    }

    private static void booleansAsNumbers() {
        Run.says("a boolean is 1 or 0");
        all(true, TRUE + "+0=1", FALSE + "+0=0", TRUE + "+" + TRUE + "=2", TRUE + "-" + FALSE + "=1", "not(b)+5=5", "not(1=2)+5=6");
    }

    private static void setsAsNumbers() {
        Run.says("a set is its first node's string-value as a number (NONE when empty).");
        all(true, "b+0=1", "b[2]+0=2", "c+0=7", "@n+@m=0", "@*+0=5", "count(b)+b=4");
        all(false, "b[3]+0=0", "b[3]+0=b[3]+0", "@e+0=0", "@t+0=0", EMPTY + "+0=0", EMPTY + "+0=" + EMPTY + "+0", ".+0=0");
        all(true, EMPTY + "+0!=0", "not(" + EMPTY + "+1)", "@e+0!=0");
        Run number = Run.of("<a>12</a>");
        Run.due("the document as a number", number.query("a[/+0=12]", 0), " 1");
        Run.due("the document as a number", number.query("a[..-11]", 0), " 1");
        Run.due("an empty set beside it", number.query("a[none+0=12]", 0), "");
        Run.due("an empty set beside it", number.query("a[none+0!=12]", 0), " 1");
        Run.due("an empty set beside it", number.query("a[none-11]", 0), "");
        // The first one in document order, though the axis goes backwards.
        Run run = Run.of("<a><b>1</b><b>2</b><c/></a>");
        Run.due("the first of a backward axis", run.query("//c[preceding::b+0=1]", 0), " 6");
        Run.due("the first of a backward axis", run.query("//c[preceding-sibling::b+0=2]", 0), "");
    }

    private static void truth() {
        Run.says("TRUE is a number other than 0 and NONE, a text with characters, a set with nodes.");
        for (String yes : new String[] { "1", "2", "999999", "0-1", "'0'", "' '", "'x'", "'\n'", "b", ".", "@e", "/", TRUE, "1=1", "b[3]",
            "count(b)", "last()" }) {
            isTrue("not(" + yes + ")", false);
            isTrue("not(not(" + yes + "))", true);
        }
        for (String no : new String[] { "0", "000000", "1-1", NONE, EMPTY + "+1", "''", EMPTY, "b[4]", FALSE, "1=2",
            "count(" + EMPTY + ")", "last()-1" }) {
            isTrue("not(" + no + ")", true);
            isTrue("not(not(" + no + "))", false);
        }
    }

    private static void sums() {
        Run.says("+ and - are of numbers, NONE if one is NONE");
        all(true, "1+2=3", "1-2=0-1", "9-3-2=4", "9-3+2=8", "1+2-3+4=4", "999999+999999='1999998'", "0-999999-999999='-1999998'",
            "'2'+'3'=5", "b[2]-b=1");
        String nines = "'999999999'";
        isTrue(nines + "+" + nines + "+" + nines + "+" + nines + "-" + nines + "-" + nines + "-" + nines + "=" + nines, true);
        isTrue("0-" + nines + "-" + nines + "-" + nines + "-" + nines + "<0-" + nines + "-" + nines + "-" + nines, true);
        for (String none : new String[] { "'n'+1", "1+'n'", "1-'n'", "'n'-'n'", "1+2-'n'+3", EMPTY + "+1", "1-" + EMPTY, "''+''",
            "b[3]-b[3]" }) {
            compares(none, "1", "0100");
            isTrue("not(" + none + ")", true);
        }
    }

    private static void counts() {
        Run.says("count is how many nodes, not the opposite of TRUE.");
        all(true, "count(" + EMPTY + ")=0", "count(.)=1", "count(b)=3", "count(b[4])=0", "count(//b)=3", "count(@*)=4", "count(b/..)=1",
            "count(/)=1",
            "count(//node())=9", "count(//.)=10");
        Run run = Run.of("<a>" + "<b/>".repeat(28) + "</a>");
        Run.due("count of all thirty", run.query("a[count(//.)=30]", 0), " 1");
        all(true, "not(0)=not('')", "not(1)=not('x')", "not(not(1))!=not(1)");
    }

    private static void noneCompared() {
        Run.says("COMPARING: NONE is = to no number and != to every one, NONE too, and neither < nor >.");
        for (String other : new String[] { "0", "1", "999999", "0-1", NONE, "1+'n'", "'5'+0" }) {
            compares(NONE, other, "0100");
        }
        compares(NONE, "'5'", "0100");
        compares(NONE, "'n'", "0100");
        compares(NONE, "b", "0100");
        compares("5", "'n'", "0100");
        compares("5", "''", "0100");
    }

    private static void setsAndBooleans() {
        Run.says("if one is a boolean and the other a set, that is taken as TRUE or not, and they are compared as booleans.");
        compares("b", TRUE, "1000");
        compares("b", FALSE, "0101");
        compares(EMPTY, TRUE, "0110");
        compares(EMPTY, FALSE, "1000");
        compares("@e", TRUE, "1000");
        compares("@e", FALSE, "0101");
        compares("b[2]", TRUE, "1000");
    }

    private static void setsAndOthers() {
        Run.says("Else if one is a set (or both): true when some node of it (of both) makes the comparison true, "
            + "its string-value (both) standing as a text.");
        compares("b", "1", "1101");
        compares("b", "2", "1110");
        compares("b", "0", "0101");
        compares("b", "3", "0110");
        compares("b", "'1'", "1101");
        compares("b", "'x'", "1100");
        compares("b", "'y'", "0100");
        compares("b[1]", "1", "1000");
        compares("b[1]", "'1'", "1000");
        compares("b[1]", "'01'", "0100");
        compares("b[1]", "'01'+0", "1000");
        compares("b[1]", "'n'", "0100");
        compares("b[3]", "0", "0100");
        compares("c", "7", "1000");
        compares("c", "'7'", "0100");
        compares("@e", "''", "1000");
        compares("@e", "0", "0100");
        compares(EMPTY, "1", "0000");
        compares(EMPTY, "0", "0000");
        compares(EMPTY, "''", "0000");
        compares(EMPTY, "'n'", "0000");
        compares(EMPTY, NONE, "0000");
    }

    private static void setsAndSets() {
        compares("b", "b", "1111");
        compares("b[1]", "b[1]", "1000");
        compares("b[1]", "b[2]", "0110");
        compares("b[3]", "@t", "1000");
        compares("b", "@t", "1100");
        compares("@n", "@m", "0101");
        compares("@e", "@e", "1000");
        compares("b", EMPTY, "0000");
        compares(EMPTY, EMPTY, "0000");
        compares("b", "c", "0110");
        compares(".", "..", "1000");
        compares("/", "..", "1000");
        compares("/", "'12x 7\n'", "1000");
    }

    private static void othersEqual() {
        Run.says("Of others: = and !=: as booleans if one is a boolean, else as numbers if one is a number, else as texts");
        all(true, "not(0)=7", "not(0)='n'", "not(0)='0'", "not(1)=0", "not(1)=''", "not(1)=" + NONE, "not(0)!=0", "not(0)!=''",
            "not(0)!=" + NONE,
            "not(0)=not(0)", "not(0)!=not(1)", "5='5'", "5=' 05 '", "'5'=5", "5!='6'", "5!='n'", "'n'='n'", "''=''", "'n'!='N'",
            "'5'!='05'", "'5'!=' 5'", "'n'!=''");
        all(false, "not(0)=0", "not(0)=''", "not(1)=7", "not(1)='n'", "not(0)!=7", "not(0)!='n'", "not(1)!=''", "5='6'", "5='n'",
            "5!='5'", "'n'='N'",
            "'5'='05'", "'n'!='n'", "''!=''", "'nn'='n'", "'n'='nn'");
    }

    private static void othersOrdered() {
        Run.says("< and >: as numbers.");
        compares("1", "2", "0110");
        compares("2", "2", "1000");
        compares("0-1", "0", "0110");
        compares("'9'", "'10'", "0110");
        compares("'2'", "10", "0110");
        compares("'n'", "'m'", "0100");
        compares("'n'", "'n'", "1000");
        compares("''", "''", "1000");
        compares(TRUE, FALSE, "0101");
        compares(TRUE, TRUE, "1000");
        all(true, "not(1)<1", "not(0)<2", "not(0)>0", "not(1)<'1'", "not(0)>'0'", "1>not(1)");
        all(false, "not(0)<1", "not(0)>1", "not(1)<0", "not(0)<'n'", "not(0)>'n'", "not(0)>''", "1<not(0)");
    }
}
