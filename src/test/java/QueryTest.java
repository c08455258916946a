/** Promises 8 and 9: query and result, with what the document says of paths, values and comparing. */
public final class QueryTest {
    private static final String BAD = "throws.IllegalArgumentException";
    private static final String INDEX = "throws.IndexOutOfBoundsException";

    /** 0 the document, 1 comment, 2 a, 3 x, 4 y, 5 b, 6 z, 7 text, 8 c, 9 text, 10 b, 11 comment, 12 text, 13 comment. */
    private static final String SAMPLE = "<!--o--><a x='1' y='2'><b z='3'>5<c>6</c></b><b/><!--d-->7</a><!--p-->";

    public static void main(String[] args) {
        axes();
        attributesAsContext();
        tests();
        starts();
        predicates();
        positions();
        numbers();
        booleansAndTexts();
        sums();
        comparingNone();
        comparingSets();
        comparingBooleans();
        comparingOrder();
        nesting();
        goodPaths();
        badPaths();
        wrongNodes();
        results();
        Run.end("QueryTest");
    }

    private static void gives(String document, String path, int p, String nodes) {
        Run.due("query " + path + " from " + p + " of " + document, Run.of(document).query(path, p), nodes);
    }

    private static void gives(String path, int p, String nodes) {
        gives(SAMPLE, path, p, nodes);
    }

    /** Whether the expr is TRUE (or a number that is 1) for node 1 of the document. */
    private static void isTrue(String document, String expr, boolean due) {
        gives(document, "/*[" + expr + "]", 0, due ? " 1" : "");
    }

    private static void isTrue(String expr, boolean due) {
        isTrue("<a n='5' m='-5' t='x' e='' w=' 5 '><b>1</b><b>2</b><b>x</b></a>", expr, due);
    }

    private static void axes() {
        gives("child::node()", 0, " 1 2 13");
        gives("child::node()", 2, " 5 10 11 12");
        gives("child::node()", 7, "");
        gives("descendant::node()", 0, " 1 2 5 7 8 9 10 11 12 13");
        gives("descendant::node()", 5, " 7 8 9");
        gives("parent::node()", 8, " 5");
        gives("parent::node()", 2, " 0");
        gives("parent::node()", 0, "");
        gives("ancestor::node()", 9, " 0 2 5 8");
        gives("self::node()", 8, " 8");
        gives("attribute::node()", 2, " 3 4");
        gives("attribute::node()", 0, "");
        gives("following-sibling::node()", 5, " 10 11 12");
        gives("following-sibling::node()", 1, " 2 13");
        gives("following-sibling::node()", 12, "");
        gives("following-sibling::node()", 0, "");
        gives("preceding-sibling::node()", 11, " 5 10");
        gives("preceding-sibling::node()", 13, " 1 2");
        gives("preceding-sibling::node()", 0, "");
        gives("following::node()", 5, " 10 11 12 13");
        gives("following::node()", 8, " 10 11 12 13");
        gives("following::node()", 1, " 2 5 7 8 9 10 11 12 13");
        gives("following::node()", 0, "");
        gives("preceding::node()", 10, " 1 5 7 8 9");
        gives("preceding::node()", 9, " 1 7");
        gives("preceding::node()", 13, " 1 2 5 7 8 9 10 11 12");
        gives("preceding::node()", 0, "");
        gives("descendant-or-self::node()", 5, " 5 7 8 9");
        gives("descendant-or-self::node()", 12, " 12");
        gives("ancestor-or-self::node()", 8, " 0 2 5 8");
    }

    private static void attributesAsContext() {
        gives("self::node()", 4, " 4");
        gives("child::node()", 4, "");
        gives("descendant::node()", 4, "");
        gives("parent::node()", 4, " 2");
        gives("ancestor::node()", 6, " 0 2 5");
        gives("ancestor-or-self::node()", 6, " 0 2 5 6");
        gives("descendant-or-self::node()", 6, " 6");
        gives("following-sibling::node()", 3, "");
        gives("preceding-sibling::node()", 4, "");
        gives("following::node()", 3, " 5 7 8 9 10 11 12 13");
        gives("following::node()", 6, " 7 8 9 10 11 12 13");
        gives("preceding::node()", 6, " 1");
        gives("preceding::node()", 4, " 1");
        gives("attribute::node()", 4, "");
        gives("self::y", 4, "");
        gives("self::*", 4, "");
        gives("../@x", 4, " 3");
    }

    private static void tests() {
        gives("//b", 0, " 5 10");
        gives("//bb", 0, "");
        gives("//*", 0, " 2 5 8 10");
        gives("//text()", 0, " 7 9 12");
        gives("//comment()", 0, " 1 11 13");
        gives("//node()", 0, " 1 2 5 7 8 9 10 11 12 13");
        gives("//@*", 0, " 3 4 6");
        gives("//@y", 0, " 4");
        gives("//@node()", 0, " 3 4 6");
        gives("//@text()", 0, "");
        gives("//@comment()", 0, "");
        gives("//attribute::x", 0, " 3");
        gives("//attribute::*", 0, " 3 4 6");
        gives("//x", 0, "");
        gives("ancestor::*", 9, " 2 5 8");
        gives("ancestor::b", 9, " 5");
        gives("<text><node/><count/><not/></text>", "text/node", 0, " 2");
        gives("<text><node/><count/><not/></text>", "*/count", 0, " 3");
        gives("<text><node/><count/><not/></text>", "//*[not]", 0, " 1");
        gives("<child><self/></child>", "child/self", 0, " 2");
        gives("<child><self/></child>", "child::child/child::self", 0, " 2");
        gives("<a-b><a/></a-b>", "a-b/a", 0, " 2");
    }

    private static void starts() {
        gives("/", 9, " 0");
        gives("/a", 9, " 2");
        gives("/*/b", 9, " 5 10");
        gives("//c", 9, " 8");
        gives("c", 5, " 8");
        gives(".", 5, " 5");
        gives("..", 5, " 2");
        gives("/..", 5, "");
        gives("/.", 5, " 0");
        gives(".//node()", 5, " 7 8 9");
        gives("..//c", 10, " 8");
        gives("a//text()", 0, " 7 9 12");
        gives("//c/..", 0, " 5");
        gives("//c/../..", 0, " 2");
        gives("//.", 0, " 0 1 2 5 7 8 9 10 11 12 13");
        gives("//..", 0, " 0 2 5 8");
        gives("//@z/../@z", 0, " 6");
        gives("//b/ancestor::*/@x", 0, " 3");
    }

    private static void predicates() {
        gives("//b[1]", 0, " 5");
        gives("//b[2]", 0, " 10");
        gives("//b[3]", 0, "");
        gives("//b[0]", 0, "");
        gives("//b[c]", 0, " 5");
        gives("//b[not(c)]", 0, " 10");
        gives("//b[@z]", 0, " 5");
        gives("//*[@*]", 0, " 2 5");
        gives("//b[1][@z]", 0, " 5");
        gives("//b[@z][1]", 0, " 5");
        gives("//b[not(@z)][1]", 0, " 10");
        gives("//b[2][1]", 0, " 10");
        gives("//b[1][2]", 0, "");
        gives("//b[c[.=6]]", 0, " 5");
        gives("//*[count(*)=2]", 0, " 2");
        gives("//*[count(*)]", 0, " 5");
        gives("//node()[count(..)]", 0, " 1 5 7 9");
        gives("//@*[.>1]", 0, " 4 6");
        gives("//@*[2]", 0, " 4");
        gives("//node()[/a/b]", 0, " 1 2 5 7 8 9 10 11 12 13");
        gives("//node()[/]", 0, " 1 2 5 7 8 9 10 11 12 13");
        gives("//node()[/b]", 0, "");
    }

    private static void positions() {
        gives("//b[last()]", 0, " 10");
        gives("//b[position()=last()]", 0, " 10");
        gives("/a/node()[position()>1]", 0, " 10 11 12");
        gives("/a/node()[position()<last()-1]", 0, " 5 10");
        gives("/a/node()[last()-1]", 0, " 11");
        gives("/a/node()[position()>1][position()>1]", 0, " 11 12");
        gives("ancestor::*[1]", 9, " 8");
        gives("ancestor::*[3]", 9, " 2");
        gives("ancestor::*[last()]", 9, " 2");
        gives("ancestor-or-self::node()[1]", 9, " 9");
        gives("ancestor-or-self::node()[2]", 9, " 8");
        gives("preceding-sibling::node()[1]", 12, " 11");
        gives("preceding-sibling::node()[last()]", 12, " 5");
        gives("preceding::node()[1]", 10, " 9");
        gives("preceding::node()[2]", 10, " 8");
        gives("preceding::node()[last()]", 10, " 1");
        gives("preceding::*[1]", 13, " 10");
        gives("parent::node()[1]", 9, " 8");
        gives("following::node()[1]", 8, " 10");
        gives("following-sibling::node()[2]", 5, " 11");
        gives("descendant::node()[2]", 5, " 8");
        gives("descendant-or-self::node()[1]", 5, " 5");
        gives("ancestor::*[position()<3][position()=2]", 9, " 5");
        gives("//node()[1]", 0, " 1 5 7 9");
        gives("ancestor::*[last()][position()]", 9, " 2");
        gives("ancestor::*[last()][2]", 9, "");
        gives("preceding::node()[last()][1]", 13, " 1");
        gives("preceding::node()[position()<last()][last()]", 13, " 2");
        gives("preceding-sibling::node()[last()-1]['x']", 12, " 10");
        gives("descendant::node()[1]", 0, " 1");
        gives("//c/ancestor::node()[2]", 0, " 2");
        gives("a/b/preceding-sibling::*[1]", 0, " 5");
    }

    private static void numbers() {
        isTrue("@n=5", true);
        isTrue("@n='5'", true);
        isTrue("@w=5", true);
        isTrue("@w='5'", false);
        isTrue("@m=0-5", true);
        isTrue("@e=0", false);
        isTrue("@e!=0", true);
        isTrue("@t!=0", true);
        isTrue("000005=@n", true);
        isTrue("999999=999999", true);
        isTrue("' 5\n'+0=5", true);
        isTrue("'-5'+5=0", true);
        isTrue("'-0'+0=0", true);
        isTrue("'- 5'+0=0-5", false);
        isTrue("'+5'+0=5", false);
        isTrue("'--5'+0=5", false);
        isTrue("'5 5'+0!=5", true);
        isTrue("'5-'+0=5", false);
        isTrue("'5.0'+0=5", false);
        isTrue("'-'+0!=0", true);
        isTrue("'   '+0=0", false);
        isTrue("''+0=0", false);
        isTrue("'999999999'>999998", true);
        isTrue("'999999999'+1>'999999999'", true);
        isTrue("'0000000001'=1", false);
        isTrue("'000000001'=1", true);
        isTrue("'1000000000'>1", false);
        isTrue("'-999999999'<0", true);
        isTrue("b+0=1", true);
        isTrue("c+0=0", false);
        isTrue("c+0!=0", true);
        isTrue("count(b)=3", true);
        isTrue("count(c)=0", true);
        isTrue("count(//node())=7", true);
        isTrue("not(0)+not(1)=1", true);
    }

    private static void booleansAndTexts() {
        isTrue("1", true);
        isTrue("2", false);
        isTrue("0", false);
        isTrue("'x'", true);
        isTrue("'0'", true);
        isTrue("' '", true);
        isTrue("''", false);
        isTrue("'x'+1", false);
        isTrue("b", true);
        isTrue("c", false);
        isTrue("@e", true);
        isTrue("not(1)", false);
        isTrue("not(7)", false);
        isTrue("not(0)", true);
        isTrue("not('x'+1)", true);
        isTrue("not('')", true);
        isTrue("not('0')", false);
        isTrue("not(c)", true);
        isTrue("not(b)", false);
        isTrue("not(not(b))", true);
        isTrue("not(1=1)", false);
        isTrue("not(1=2)", true);
        isTrue("not(1-1)", true);
        isTrue("count(b)-2", true);
        isTrue("@n-4", false);
        isTrue("@n+0-4", true);
        isTrue("@n", true);
        isTrue("position()", true);
        isTrue("last()", true);
        isTrue("'it is \"<[]>\" & \n'", true);
    }

    private static void sums() {
        isTrue("1+2=3", true);
        isTrue("5-2-1=2", true);
        isTrue("5-2+1=4", true);
        isTrue("1-2=0-1", true);
        isTrue("2=1+1", true);
        isTrue("'x'+1=1", false);
        isTrue("1-'x'!=1", true);
        isTrue("1+'x'-'x'=1", false);
        isTrue("@n+@m=0", true);
        isTrue("@n+0-@m=10", true);
        isTrue("b[1]+b[2]=3", true);
        isTrue("b[2]-b[1]=1", true);
        isTrue("b[3]+0=0", false);
        isTrue(".+0=12", false);
        isTrue("<a>1<b>2</b></a>", ".+0=12", true);
        isTrue("<a>1<b>2</b></a>", ".-2=10", true);
        isTrue("<a>1<b>2</b></a>", "*-1=1", true);
        isTrue("<a>1<b>2</b></a>", "text()-1=0", true);
        isTrue("<a>1<b>2</b></a>", "/-2=10", true);
        isTrue("<a>1<b>2</b></a>", "..-2=10", true);
        isTrue("'999999999'+'999999999'+'999999999'+'999999999'>'999999999'+'999999999'+'999999999'", true);
    }

    private static void comparingNone() {
        isTrue("'x'+0='x'+0", false);
        isTrue("'x'+0!='x'+0", true);
        isTrue("'x'+0!=1", true);
        isTrue("1!='x'+0", true);
        isTrue("'x'+0=0", false);
        isTrue("'x'+0<1", false);
        isTrue("'x'+0>1", false);
        isTrue("1<'x'", false);
        isTrue("1>'x'", false);
        isTrue("'x'<'y'", false);
        isTrue("'x'='x'", true);
        isTrue("'x'!='x'", false);
        isTrue("'x'=1", false);
        isTrue("'x'!=1", true);
        isTrue("''=''", true);
        isTrue("'5'='05'", false);
        isTrue("'5'=5", true);
        isTrue("'05'=5", true);
    }

    private static void comparingSets() {
        isTrue("b=1", true);
        isTrue("b=2", true);
        isTrue("b=3", false);
        isTrue("b!=1", true);
        isTrue("b='x'", true);
        isTrue("b='y'", false);
        isTrue("b>1", true);
        isTrue("b>2", false);
        isTrue("b<2", true);
        isTrue("2>b", true);
        isTrue("1>b", false);
        isTrue("b<'2'", true);
        isTrue("b<'x'", false);
        isTrue("c=c", false);
        isTrue("c!=c", false);
        isTrue("c=''", false);
        isTrue("c!=''", false);
        isTrue("c<1", false);
        isTrue("b=c", false);
        isTrue("b!=c", false);
        isTrue("b=b", true);
        isTrue("b!=b", true);
        isTrue("b[1]!=b[1]", false);
        isTrue("b[1]=b[2]", false);
        isTrue("b[1]<b[2]", true);
        isTrue("b[2]<b[1]", false);
        isTrue("b[2]<b", false);
        isTrue("b<b", true);
        isTrue("@n=@w", false);
        isTrue("@n=@w+0", true);
        isTrue("@t=b", true);
        isTrue("@t=.", false);
        isTrue(".='12x'", true);
        isTrue("..='12x'", true);
        isTrue("<a>12<b>12</b><c x='12'/><!--12--></a>", "text()=b", true);
        isTrue("<a>12<b>12</b><c x='12'/><!--12--></a>", "b=c/@x", true);
        isTrue("<a>12<b>12</b><c x='12'/><!--12--></a>", "comment()=c/@x", true);
        isTrue("<a>12<b>12</b><c x='12'/><!--12--></a>", "comment()!=c/@x", false);
        isTrue("<a>12<b>12</b><c x='12'/><!--12--></a>", ".=b", false);
        isTrue("<a><b>12</b></a>", ".=b", true);
        isTrue("<a><b>12</b></a>", ".!=b", false);
    }

    private static void comparingBooleans() {
        isTrue("not(c)=b", true);
        isTrue("not(b)=b", false);
        isTrue("not(b)=c", true);
        isTrue("not(c)!=b", false);
        isTrue("b!=not(c)", false);
        isTrue("c!=not(c)", true);
        isTrue("not(b)<b", true);
        isTrue("not(c)<b", false);
        isTrue("b>not(b)", true);
        isTrue("c>not(b)", false);
        isTrue("c<not(c)", true);
        isTrue("not(0)=7", true);
        isTrue("not(0)!=7", false);
        isTrue("not(0)='no'", true);
        isTrue("not(0)=''", false);
        isTrue("not(1)=''", true);
        isTrue("not(1)='x'+0", true);
        isTrue("not(0)=not(0)", true);
        isTrue("not(0)=not(1)", false);
        isTrue("not(0)!=not(1)", true);
        isTrue("not(0)>not(1)", true);
        isTrue("not(0)<2", true);
        isTrue("not(0)<'2'", true);
        isTrue("not(0)<'x'", false);
        isTrue("not(0)>'x'", false);
        isTrue("not(0)>0", true);
        isTrue("1<not(0)", false);
    }

    private static void comparingOrder() {
        isTrue("1<2", true);
        isTrue("2<1", false);
        isTrue("1<1", false);
        isTrue("2>1", true);
        isTrue("1>1", false);
        isTrue("'10'>'9'", true);
        isTrue("'2'<'10'", true);
        isTrue("1+1>1", true);
        isTrue("1=1", true);
        isTrue("1!=1", false);
        isTrue("1!=2", true);
    }

    private static void nesting() {
        gives("//*[*[*[*]]]", 0, "");
        gives("/a[b[c[text()[1]]]]", 0, " 2");
        gives("/a[b[c[text()[self::node()[1]]]]]", 0, BAD);
        gives("/a[not(not(not(b)))]", 0, "");
        gives("/a[not(not(not(not(b))))]", 0, BAD);
        gives("/a[count(b[count(c)])]", 0, " 2");
        gives("/a[count(b[count(c[1])])]", 0, BAD);
        gives("/a[count(b[not(d)])=2]", 0, " 2");
        gives("/a[count(b[not(d[1])])=2]", 0, BAD);
        gives("/a[b[c[count(text())]]]", 0, " 2");
        gives("/a[b[c[count(text())[1]]]]", 0, BAD);
        gives("/a[b[c[text()[count(.)]]]]", 0, BAD);
        gives("/a[b[c[text()[not(.)]]]]", 0, BAD);
        gives("/a[b[c[text()[position()]]]]", 0, " 2");
        gives("/a[1][1][1][1][1][1]/b[1][1][1][1][1]", 0, " 5");
    }

    private static void goodPaths() {
        String[] paths = {
            "/", "a", ".", "..", "*", "@*", "@a", "/a", "//a", "/.", "//.", "/..", "/@a", "/*", "a/b", "a//b", "./a", "../a", "..//..",
            "text()", "comment()", "node()", "@node()", "@text()", "child::text()", "text", "node", "comment", "position",
            "last", "count", "not", "self", "child", "child::child", "self::self", "attribute::*", "a-1", "a-", "a_b-c9", "A",
            "a[1]", "a[000000]", "a[999999]", "a['']", "a['\"']", "a[' \n']", "a['[']", "a[/]", "a[/=/]", "a[/+/]", "a[/-/]", "a[/</]",
            "a[//b]", "a[.]", "a[..]", "a[*]", "a[@*]", "a[position()]", "a[last()]", "a[count(/)]", "a[count(.)]", "a[not(/)]",
            "a[count]", "a[not]", "a[position]", "a[last]", "a[count/b]", "a[text()]", "a[node()-1]", "a[*-1]", "a[.-1]", "a[..-1]",
            "a[b[1]-1]", "a[1-b]", "a[1+b+c]", "a[a-b-c]", "a[1=1]", "a[1!=1]", "a[1<1]", "a[1>1]", "a[1+1=1+1]", "a[not(1=1)]",
            "a[not(1)+not(1)]", "a[1][2]", "*[1]", "@*[1]", "node()[1]", "ancestor-or-self::node()[1]", "a[position()=last()]",
            "descendant-or-self::*", "following-sibling::a", "preceding-sibling::a", "following::a", "preceding::a",
            "ancestor::a", "parent::a", "descendant::a" };
        for (String path : paths) {
            Run.due("query " + path, Run.of("<a/>").query(path, 1).startsWith("throws"), false);
        }
    }

    private static void badPaths() {
        String[] paths = {
            "", " ", " a", "a ", "a b", "a /b", "\n", "//", "///", "///a", "a/", "a//", "a///b", "/ a", "...", ".a", "a.", "..a", ". .",
            ".[1]", "..[1]", "./[1]", "/[1]", "@", "@.", "@..", "@@a", "@[1]", "@/a", "::a", "child::", "child:a", "child::.",
            "child::..", "child::@a", "child::child::a", "@child::a", "@attribute::a", "foo::a", "Child::a", "text::a", "namespace::a",
            "namespace::*", "child ::a", "1", "1a", "'a'", "-a", "_a", "a+b", "a=b", "position()", "last()", "count(a)", "not(a)",
            "text(", "text)", "text( )", "text(a)", "text()()", "node(1)", "foo()", "foo(", "a(", "a()", "comment('x')", "a/position()",
            "a/count(b)", "child::position()", "child::last()", "child::foo()", "@count()", "a[", "a[]", "a]", "a[1", "a[1]]", "a[[1]]",
            "a[1][", "a[ 1]", "a[1 ]", "a[1=]", "a[=1]", "a[1==1]", "a[1=1=1]", "a[1<1<1]", "a[1<=1]", "a[1>=1]", "a[1!1]", "a[!1]",
            "a[1=!1]", "a[1+]", "a[+1]", "a[-1]", "a[1--1]", "a[1+-1]", "a[1-]", "a[1234567]", "a[1.0]", "a[1a]", "a['a]", "a[a']",
            "a[\"a\"]", "a['a''b']", "a['a'b]", "a[1 +1]", "a[position]()", "a[position(]", "a[position(1)]", "a[position()()]",
            "a[last(1)]", "a[count()]", "a[count(1)]", "a[count('a')]", "a[count(a]", "a[count(a=b)]", "a[count(a+b)]", "a[count(a)/b]",
            "a[count(not(a))]", "a[count(count(a))]", "a[count(a)[1]]", "a[not()]", "a[not(a]", "a[not(a)/b]", "a[not(a)[1]]",
            "a[not (a)]", "a[foo()]", "a[foo(a)]", "a[true()]", "a[text()/position()]", "a[//]", "a[b/]", "a[b//]", "a[(1)]", "(a)", "a|b",
            "a[1*1]", "a[a and b]", "$a", "a[$b]", "a,b", "*a", "a*", "**", "*:a", "a:b", "a:*", "a::b", "#", "a[1]b", "a[1]/", "a[1]//",
            "a[1]@b", "a@b", "a[b@c]", "a[b-@c]", "/a[1", "~", "a[.=1]x", "a[']", "a[1]'", "a[.[1]]", "a[..[1]]", "a[b[c[d[e[f]]]]]",
            "a[count(b[c[d[e]]])]" };
        for (String path : paths) {
            Run run = Run.of("<a><b/></a>");
            run.query("//*", 0);
            Run.due("query " + path, run.query(path, 0), BAD);
            Run.due("results after " + path, run.results(), " 1 2");
            Run.due("buffer after " + path, run.bufferLength(), path.length());
        }
    }

    private static void wrongNodes() {
        for (int p : new int[] { -1, 3, 30, 31, Integer.MAX_VALUE, Integer.MIN_VALUE }) {
            Run run = Run.of("<a><b/></a>");
            Run.due("query(3) with a path", run.query("a", p), INDEX);
            Run.due("query with no path", run.query("a[", p), INDEX);
            Run.due("query with nothing", run.query("", p), INDEX);
        }
        Run.due("query(1) of a new store", new Run().query("/", 1), INDEX);
    }

    private static void results() {
        Run run = Run.of("<a><b/>t<b/></a>");
        Run.due("query", run.query("//b", 0), " 2 4");
        Run.due("result(0)", run.result(0), 2);
        Run.due("result(1)", run.result(1), 4);
        for (int k : new int[] { -1, 2, 30, Integer.MAX_VALUE, Integer.MIN_VALUE }) {
            Run.due("result " + k, run.result(k), INDEX);
        }
        Run.due("query", run.query("//c", 0), "");
        Run.due("result(0)", run.result(0), INDEX);
        Run.due("query", run.query("//text()", 0), " 3");
        run.insert("<", 1, 0);
        run.delete(0);
        run.rename("1", 1);
        run.load("<");
        run.query("[", 0);
        Run.due("results after calls that throw", run.results(), " 3");
        run.load("<a/>");
        Run.due("result(0) after load", run.result(0), INDEX);
    }
}
