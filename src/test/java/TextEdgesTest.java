/** The edges of texts, nodes, room and string-values, and of promise 4, a sentence at a time. */
public final class TextEdgesTest {
    private static final String BAD = "throws.IllegalArgumentException";
    private static final String OTHER = "throws.UnsupportedOperationException";
    private static final String STATE = "throws.IllegalStateException";

    // 30 nodes and 29 nodes, with the document's element still open.
    private static final String FULL = "<a>" + "x<b/>".repeat(14);
    private static final String NEARLY_FULL = "<a>" + "x<b/>".repeat(13) + "x";
    private static final String DEEP = "<a><b><c><d><e><f><g><h>";
    private static final String DEEP_ENDS = "</h></g></f></e></d></c></b></a>";

    public static void main(String[] args) {
        blanks();
        names();
        longestNames();
        documents();
        elements();
        attributes();
        attributeNames();
        comments();
        characters();
        charactersInAttributes();
        nodeOrder();
        sideBySide();
        outside();
        children();
        mostNodes();
        deepest();
        firstThing();
        unsupported();
        unsupportedElsewhere();
        noRoomForElement();
        noRoomForAttribute();
        noRoomForText();
        noRoomForComment();
        anyOtherCharacter();
        stringValues();
        loadInPlace();
        loadAnswers();
        Run.end("TextEdgesTest");
    }

    private static void prints(String text, String printed) {
        Run run = new Run();
        String answer = run.load(text);
        Run.due("load " + text, answer, run.store.nodes());
        Run.due("print of " + text, run.print(), printed);
    }

    private static void refused(String thrown, String... texts) {
        for (String text : texts) {
            Run run = Run.of("<old>1</old>");
            Run.due("load " + text, run.load(text), thrown);
            Run.due("print after " + text, run.print(), "<old>1</old>");
        }
    }

    /**
     * The text goes wrong with its last character: what is before it only ends too early, and whatever is
     * behind it is not looked at.
     */
    private static void wrongWith(String text, String thrown) {
        Run.due("load " + text, new Run().load(text), thrown);
        String before = text.substring(0, text.length() - 1);
        Run.due("load " + before, new Run().load(before), BAD);
        for (String behind : new String[] { " ", "<", "<?", "<!D", "&x", "</a>", "'", "--", "<z><z>", "$", "z" }) {
            if (text.length() + behind.length() <= 120) {
                Run.due("load " + text + behind, new Run().load(text + behind), thrown);
            }
        }
    }

    private static void blanks() {
        Run.says("BLANKS are LF and space.");
        for (String blanks : new String[] { " ", "\n", " \n", "\n ", "  ", "\n\n", " ".repeat(90), "\n".repeat(90) }) {
            prints(blanks + "<a/>", "<a/>");
            prints("<a/>" + blanks, "<a/>");
            prints("<a" + blanks + "/>", "<a/>");
            prints("<a" + blanks + ">t</a>", "<a>t</a>");
            prints("<a>t</a" + blanks + ">", "<a>t</a>");
            prints("<a" + blanks + "x='1'/>", "<a x=\"1\"/>");
            prints("<a x='1'" + blanks + "/>", "<a x=\"1\"/>");
            prints("<a x='1'" + blanks + "y='2'/>", "<a x=\"1\" y=\"2\"/>");
            refused(BAD, "<" + blanks + "a/>", "<a/" + blanks + ">", "<a><" + blanks + "/a>", "<a></" + blanks + "a>",
                "<a x" + blanks + "='1'/>", "<a x=" + blanks + "'1'/>", "<" + blanks + "!--c--><a/>", "<!" + blanks + "--c--><a/>",
                "<!-" + blanks + "-c--><a/>", "<!--c-" + blanks + "->", "<!--c--" + blanks + "><a/>", blanks);
        }
    }

    private static void names() {
        Run.says("A NAME is a letter (a .. z, A .. Z) and any number of letters, digits, - and _.");
        for (int c = 32; c < 127; c++) {
            boolean letter = c >= 'a' && c <= 'z' || c >= 'A' && c <= 'Z';
            boolean inName = letter || c >= '0' && c <= '9' || c == '-' || c == '_';
            String first = "<" + (char) c + "/>";
            String second = "<n" + (char) c + "/>";
            String attribute = "<n " + (char) c + "n=''/>";
            String inAttribute = "<n n" + (char) c + "=''/>";
            // These begin something else, or are blank.
            boolean other = c == '?' || c == '!' || c == '/' || c == ' ' || c == '>';
            if (!other) {
                Run.due("load " + first, new Run().load(first), letter ? "2" : BAD);
                Run.due("load " + second, new Run().load(second), inName ? "2" : BAD);
                Run.due("load " + attribute, new Run().load(attribute), letter ? "3" : BAD);
            }
            Run.due("load " + inAttribute, new Run().load(inAttribute), inName ? "3" : BAD);
            Run.due("rename to " + (char) c, Run.of("<n/>").rename("" + (char) c, 1), letter ? "1" : BAD);
            Run.due("rename to n" + (char) c, Run.of("<n/>").rename("n" + (char) c, 1), inName ? "2" : BAD);
        }
    }

    private static void longestNames() {
        Run.says("As long a name as there can be is read.");
        Run.due("the longest name", new Run().load("<" + "n".repeat(117) + "/>"), 2);
        Run.due("its last character", Run.of("<" + "n".repeat(116) + "z/>").store.name(1, 116), (int) 'z');
        prints("<a-b_c-9-/>", "<a-b_c-9-/>");
        prints("<a--b--x></a--b--x>", "<a--b--x/>");
        refused(BAD, "<ab></a>", "<a></ab>", "<a></a-", "<a></a->", "<a-></a>", "<a></a_>", "<a></a1>");
        prints("<a x-y='1' x='2' x-='3'/>", "<a x-y=\"1\" x=\"2\" x-=\"3\"/>");
    }

    private static void documents() {
        Run.says("document = any number of blanks and comments, one element, any number of blanks and comments.");
        prints("<a/>", "<a/>");
        prints("<!--1--><a/>", "<!--1--><a/>");
        prints("<a/><!--1-->", "<a/><!--1-->");
        prints("<!--1--><!--2--> <!--3--><a/>\n<!--4--><!--5-->", "<!--1--><!--2--><!--3--><a/><!--4--><!--5-->");
        refused(BAD, "", " ", "\n", "<!--1-->", " <!--1--> <!--2--> ", "<a/><b/>", "<a/><a/>", "<a/> <!--1--><b/>", "t<a/>", "<a/>t",
            "<!--1-->t<a/>", "<a/><!--1-->t", "&lt;<a/>", "<a/>&amp;", "</a>", "<a/></a>", "/><a/>");
    }

    private static void elements() {
        Run.says("element = < NAME, any number of attributes, any number of blanks, then /> or: >, "
            + "any number of (element, comment, character), </ NAME (the same), any number of blanks, >.");
        prints("<a></a>", "<a/>");
        prints("<a>t<b/><!--c-->u<d></d></a>", "<a>t<b/><!--c-->u<d/></a>");
        prints("<a><a><a></a></a></a>", "<a><a><a/></a></a>");
        prints("<a>/></a>", "<a>/></a>");
        refused(BAD, "<", "<a", "<a/", "<a>", "<a><", "<a></", "<a></a", "<a></a ", "<>", "</>", "<a/ >", "<a / >", "<a//>", "<a></>",
            "<a></b>", "<a></A>", "<A></a>", "<a><b></a></b>", "<a><b></a>", "<a></a/>", "<a></a x='1'>", "<a></a></a>", "<a>/a>");
    }

    private static void attributes() {
        Run.says("attribute = one blank or more, NAME, =, \" or ', any number of characters other than this quote, the same quote again.");
        prints("<a x=''/>", "<a x=\"\"/>");
        prints("<a x=\"\"/>", "<a x=\"\"/>");
        prints("<a x='" + "v".repeat(110) + "'/>", "<a x=\"" + "v".repeat(110) + "\"/>");
        prints("<a x='\"'/>", "<a x=\"&quot;\"/>");
        prints("<a x=\"'\"/>", "<a x=\"'\"/>");
        prints("<a x=' \n>/=-'/>", "<a x=\" \n>/=-\"/>");
        refused(BAD, "<a x='1'y='2'/>", "<a'1'/>", "<a x/>", "<a x=/>", "<a x=1/>", "<a x='1/>", "<a x=\"1/>", "<a x='1\"/>", "<a x=\"1'/>",
            "<a x=''1'/>", "<a x='1''/>", "<a ='1'/>", "<a x=`1`/>", "<a x=='1'/>", "<a x=", "<a x='", "<a x=''", "<a x", "<a '1'/>");
    }

    private static void attributeNames() {
        Run.says("No two attributes of an element have the same name.");
        refused(BAD, "<a x='1' x='1'/>", "<a x='1' x=\"2\"/>", "<a x='' y='' x=''/>", "<a y='' x='' x=''/>", "<a><b x='' x=''/></a>",
            "<a x='1'><b y='' y=''/></a>");
        prints("<a x='1' X='2' xx='3'/>", "<a x=\"1\" X=\"2\" xx=\"3\"/>");
        prints("<x x='1'><x x='2'/><x x='2'/></x>", "<x x=\"1\"><x x=\"2\"/><x x=\"2\"/></x>");
        // The name is the same once its = is there, before the attribute asks for room.
        wrongWith("<a x='1' x=", BAD);
        refused(BAD, "<a>" + "x<b/>".repeat(13) + "<b y='' y=''/></a>");
    }

    private static void comments() {
        Run.says("comment = <!-- any number of characters among which there is no -- and of which - is not the last, -->.");
        for (String inside : new String[] { "", "c", "-c", "->", "c-d", "-c-d", " ", "\n", "<", ">", "&", "<b>", "&lt;", "<?", "'\"",
            "- - c", "!" }) {
            prints("<!--" + inside + "--><a/>", "<!--" + inside + "--><a/>");
            prints("<a><!--" + inside + "--></a>", "<a><!--" + inside + "--></a>");
            prints("<a/><!--" + inside + "-->", "<a/><!--" + inside + "-->");
        }
        for (String inside : new String[] { "-", "--", "---", "c-", "c--", "--c", "c--d", "c-- ", "- -", "c->d-" }) {
            refused(BAD, "<!--" + inside + "--><a/>", "<a><!--" + inside + "--></a>", "<a/><!--" + inside + "-->");
        }
        refused(BAD, "<!", "<!-", "<!--", "<!---", "<!----", "<!-->", "<!--->", "<!--c", "<!--c-", "<!--c--", "<!--c->", "<!--c><a/>",
            "<!-c--><a/>", "<!c--><a/>", "<a><!--c</a>", "<a><!--c->d</a>");
    }

    private static void characters() {
        Run.says("character = any but < and &, or one of &lt; &gt; &amp; &quot; &apos; that stand for < > & \" '.");
        for (int c = 10; c < 127; c = c == 10 ? 32 : c + 1) {
            if (c != '<' && c != '&') {
                Run run = Run.of("<a>" + (char) c + "</a>");
                Run.due("value of " + c, run.value(2), (char) c);
                Run.due("nodes with " + c, run.store.nodes(), 3);
            }
        }
        Run run = Run.of("<a>&lt;&gt;&amp;&quot;&apos;</a>");
        Run.due("value", run.value(2), "<>&\"'");
        Run.due("value of what is not read twice", Run.of("<a>&amp;lt;&amp;amp;</a>").value(2), "&lt;&amp;");
        Run.due("value beside others", Run.of("<a>x&lt;;y</a>").value(2), "x<;y");
        for (String wrong : new String[] {
            "&", "&;", "& ", "&&", "&x;", "&l", "&lt", "&lt ", "&LT;", "&Lt;", "& lt;", "&l t;", "&lt&lt;", "&gt", "&am;", "&ampx;",
            "&quo;",
            "&apo;", "&ltx", "&gtx", "&ampx", "&quotx", "&aposx", "&lt:", "&gt:", "&amp:", "&quot:", "&apos:", "&aquot;", "&quotapos;",
            "&#60;", "&#x3c;", "&nbsp;", "<", "&<" }) {
            refused(BAD, "<a>" + wrong + "</a>", "<a>x" + wrong + "y</a>", "<a x='" + wrong + "'/>", "<a>" + wrong);
        }
    }

    private static void charactersInAttributes() {
        Run.says("(So in an attribute too.)");
        for (String quote : new String[] { "'", "\"" }) {
            Run run = Run.of("<a x=" + quote + "&lt;&gt;&amp;&quot;&apos;" + quote + "/>");
            Run.due("value in " + quote, run.value(2), "<>&\"'");
        }
        refused(BAD, "<a x='<'/>", "<a x='&'/>", "<a x='&lt'/>", "<a x='<b/>'/>");
    }

    private static void nodeOrder() {
        Run.says("of each element (1) the element, its attributes (2) in order, then what it contains in order: "
            + "elements, TEXTS (3: as many characters as stand side by side), COMMENTS (4).");
        Run.due("all", Run.of("<a z='1' y='2'>t<b x='3'>u</b><!--c-->v</a>").all(),
            "0,0,9,,tuv;1,1,8,a,tuv;2,2,0,z,1;2,2,0,y,2;3,2,0,,t;1,2,2,b,u;2,3,0,x,3;3,3,0,,u;4,2,0,,c;3,2,0,,v;");
    }

    private static void sideBySide() {
        Run.says("TEXTS (3: as many characters as stand side by side)");
        Run.due("one text", Run.of("<a>t &lt;\nu'</a>").all(), "0,0,2,,t <\nu';1,1,1,a,t <\nu';3,2,0,,t <\nu';");
        Run.due("nodes with one character", Run.of("<a>t</a>").store.nodes(), 3);
        Run.due("nodes with one blank", Run.of("<a> </a>").store.nodes(), 3);
        Run.due("nodes with none", Run.of("<a></a>").store.nodes(), 2);
        Run.due("nodes round a comment", Run.of("<a>t<!---->u</a>").store.nodes(), 5);
        Run.due("nodes round an element", Run.of("<a>t<b/>u</a>").store.nodes(), 5);
        Run.due("blanks between elements", Run.of("<a> <b/>\n<c/> </a>").store.nodes(), 7);
        Run.due("texts at two levels", Run.of("<a>t<b>u</b>v</a>").store.nodes(), 6);
    }

    private static void outside() {
        Run.says("Blanks and comments outside of the document's element: the comments are nodes, the blanks nothing.");
        Run.due("all", Run.of(" <!--1-->\n <!----> <a/> \n<!--3--> ").all(), "0,0,4,,;4,1,0,,1;4,1,0,,;1,1,0,a,;4,1,0,,3;");
    }

    private static void children() {
        Run.says("All but attributes and the document are CHILDREN of what they lie in; the PARENT of an attribute is its element.");
        Run run = Run.of("<!--1--><a x='1'>t<b y='2'><!--2--></b></a>");
        Run.due("children of the document", run.query("child::node()", 0), " 1 2");
        Run.due("children of a", run.query("child::node()", 2), " 4 5");
        Run.due("children of b", run.query("child::node()", 5), " 7");
        String[] parents = { "", " 0", " 0", " 2", " 2", " 2", " 5", " 5" };
        for (int p = 0; p < parents.length; p++) {
            Run.due("parent of " + p, run.query("..", p), parents[p]);
        }
    }

    private static void mostNodes() {
        Run.says("there are at most 30 nodes");
        Run.due("29", new Run().load(NEARLY_FULL + "</a>"), 29);
        Run.due("30, the last one an element", new Run().load(FULL + "</a>"), 30);
        Run.due("30, the last one a text", new Run().load("<a>" + "<b/>x".repeat(14) + "</a>"), 30);
        Run.due("30, the last one a comment", new Run().load(NEARLY_FULL + "<!--c--></a>"), 30);
        Run.due("30, the last one a comment outside", new Run().load(NEARLY_FULL + "</a><!--c-->"), 30);
        Run.due("30, the last one an attribute", new Run().load("<a>" + "x<b/>".repeat(13) + "<b y=''/></a>"), 30);
        refused(STATE, FULL + "x</a>", FULL + "<b/></a>", FULL + "<!--c--></a>", FULL + "</a><!--c-->", NEARLY_FULL + "<b y=''/></a>",
            "<!--c-->" + FULL + "</a>", "<a>" + "<b/>".repeat(29), "<a>" + "<b/>".repeat(28) + "x");
        String attributes = "";
        for (char c = 'a'; c < 'a' + 19; c++) {
            attributes += " " + c + "=''";
        }
        Run.due("many attributes", new Run().load("<a" + attributes + "/>"), 21);
        prints("<a>" + "<b/>".repeat(28) + "</a>", "<a>" + "<b/>".repeat(28) + "</a>");
    }

    private static void deepest() {
        Run.says("an element is at most 8 deep (the document's element 1).");
        Run run = Run.of(DEEP + DEEP_ENDS);
        Run.due("level of the document's element", run.store.level(1), 1);
        Run.due("level of the deepest", run.store.level(8), 8);
        Run.due("text, comment and attribute in the deepest",
            new Run().load(DEEP.replace("<h>", "<h x=''>") + "t<!--c-->" + DEEP_ENDS), 12);
        Run.due("two of the deepest", new Run().load(DEEP + "</h><h/><h>" + DEEP_ENDS), 11);
        refused(STATE, DEEP + "<i/>" + DEEP_ENDS, DEEP + "</h><h>t<i></i>" + DEEP_ENDS, DEEP + "t<!--c--><i/>" + DEEP_ENDS);
        Run.due("8 deep behind 8 deep", new Run().load(DEEP + "</h></g></f></e><e><f><g><h>" + DEEP_ENDS), 13);
    }

    private static void firstThing() {
        Run.says("The first thing that goes wrong from left to right tells what is thrown");
        refused(OTHER, "<?<a", "<a><?</b>", DEEP + "<?<i/>", FULL + "<?x", "<a><!D&", "<a/><?t", "<!--c--><![<a/>");
        refused(STATE, DEEP + "<i><?", DEEP + "<i$", DEEP + "<i x=1", FULL + "x<?", FULL + "x&", FULL + "<c<?", FULL + "<!--c--><?",
            FULL + "x</b>");
        refused(BAD, "t<?", "</<?", "<a></b><?", "<a>&<?", "<a x=<?", "<a/>t<?", DEEP + "</i><i/>", DEEP + "&;<i/>", FULL + "</b>x",
            FULL + "<$x",
            FULL + "</a>t<!--c-->", FULL + "</a></a><!--c-->", NEARLY_FULL + "<b y='&'", NEARLY_FULL + "<b y='<'");
    }

    private static void unsupported() {
        Run.says("UnsupportedOperationException at a < that is followed by ?, by !D or by ![ (where a comment or an element could begin)");
        for (String before : new String[] {
            "", " ", "\n", "<!--c-->", " <!--c-->\n", "<a>", "<a>t", "<a> ", "<a><b/>", "<a><!--c-->", "<a><b>", "<a><b></b>", "<a x='1'>",
            "<a/>", "<a/> ", "<a></a>", "<a/><!--c-->", DEEP, FULL, FULL + "</a>" }) {
            wrongWith(before + "<?", OTHER);
            wrongWith(before + "<!D", OTHER);
            wrongWith(before + "<![", OTHER);
        }
    }

    private static void unsupportedElsewhere() {
        for (String mark : new String[] { "<?", "<!D", "<![" }) {
            refused(BAD, "t" + mark, "<a/>t" + mark, "<" + mark, "<a" + mark, "<a " + mark, "<a x" + mark, "<a x=" + mark,
                "<a x='" + mark + "'/>",
                "<a x=''" + mark, "<a/" + mark, "<a></" + mark, "<a></a" + mark, "<a>&" + mark, "<!-" + mark, "<!--c--" + mark);
            prints("<!--" + mark + "--><a/>", "<!--" + mark + "--><a/>");
        }
        refused(BAD, "<!d", "<! D", "<!(", "<!]", "<!?", "<!A", "<!", "<! ", "<a><!d", "<a/><!d");
    }

    private static void noRoomForElement() {
        Run.says("IllegalStateException where a node begins for which there is no ROOM (an element: at its NAME's end");
        for (String before : new String[] { DEEP, DEEP + "t", DEEP + "</h><h>", FULL }) {
            wrongWith(before + "<i", STATE);
            refused(STATE, before + "<i>", before + "<i/>", before + "<ij", before + "<i-_9", before + "<i ", before + "<i$");
            refused(BAD, before + "<", before + "<$", before + "<1", before + "<-");
        }
    }

    private static void noRoomForAttribute() {
        Run.says("an attribute: at its second quote");
        String before = NEARLY_FULL + "<b";
        wrongWith(before + " y=''", STATE);
        wrongWith(before + " y='v'", STATE);
        wrongWith(before + " y=\"v'&lt;\"", STATE);
        refused(BAD, before + " y", before + " y=", before + " y='", before + " y='v", before + " y='&", before + " y='<", before + " y=x");
        String second = "<a>" + "x<b/>".repeat(13) + "<b y='1'";
        wrongWith(second + " z=''", STATE);
        Run.due("without it", new Run().load(second + "/></a>"), 30);
    }

    private static void noRoomForText() {
        Run.says("a text: at its first character");
        for (String first : new String[] { "x", " ", "\n", "&", ">", "-", "\"" }) {
            wrongWith(FULL + first, STATE);
        }
        refused(STATE, FULL + "&lt;", FULL + "&x", FULL + "& ");
        // A text that has begun needs no more room.
        Run.due("a long text", new Run().load("<a>" + "<b/>".repeat(27) + "long</a>"), 30);
        Run.due("blanks outside", new Run().load(FULL + "</a> \n "), 30);
    }

    private static void noRoomForComment() {
        Run.says("a comment: at its end)");
        wrongWith(FULL + "<!---->", STATE);
        wrongWith(FULL + "<!--c-->", STATE);
        wrongWith(FULL + "</a><!--c-->", STATE);
        refused(BAD, FULL + "<!", FULL + "<!-", FULL + "<!--", FULL + "<!--c", FULL + "<!--c-", FULL + "<!--c--", FULL + "<!--c--x",
            FULL + "<!--c---",
            FULL + "<!x", FULL + "</a><!--c--x");
    }

    private static void anyOtherCharacter() {
        Run.says("IllegalArgumentException at any other character (or the end) with which no document can go on.");
        String text = " <!--c--><ab x='1' y=\"&lt;\">t<b/>&amp;<c ><!--d--></c ></ab\n><!--e--> ";
        Run.due("the whole", new Run().load(text), 11);
        for (int end = 0; end < text.lastIndexOf("<!--e"); end++) {
            boolean whole = text.substring(0, end).endsWith("</ab\n>");
            Run.due("load of the first " + end, new Run().load(text.substring(0, end)), whole ? "10" : BAD);
        }
        for (String wrong : new String[] { "$", "t", "<", ">", "&", "/", "\"", "<b/>", "</ab>", "-" }) {
            refused(BAD, wrong + text, text + wrong);
        }
    }

    private static void stringValues() {
        Run.says("STRING-VALUES: of a text, comment, attribute: its characters; "
            + "of an element or the document: those of all texts in it, in order.");
        Run run = Run.of("<!--o--><a x='v' y=''>1<b z='w'>2<c>3</c><!--c-->4</b><d/>5</a>");
        String[] values = { "12345", "o", "12345", "v", "", "1", "234", "w", "2", "3", "3", "c", "4", "", "5" };
        for (int p = 0; p < values.length; p++) {
            Run.due("value " + p, run.value(p), values[p]);
        }
        Run.due("value of a document without texts", Run.of("<a x='1'><!--c--></a>").value(0), "");
    }

    private static void loadInPlace() {
        Run.says("The store gets the document in the buffer in place of what it has");
        Run run = Run.of("<a>" + "<b/>".repeat(28) + "</a>");
        Run.due("load 30 behind 30", run.load("<c>" + "<d/>".repeat(28) + "</c>"), 30);
        Run.due("print", run.print(), "<c>" + "<d/>".repeat(28) + "</c>");
        Run.due("load 2 behind 30", run.load("<a/>"), 2);
        Run.due("all", run.all(), "0,0,1,,;1,1,0,a,;");
        Run.due("load the same again", run.load("<a/>"), 2);
        Run.due("load 8 deep behind it", run.load(DEEP + DEEP_ENDS), 9);
        Run.due("load 8 deep again", run.load(DEEP + DEEP_ENDS), 9);
    }

    private static void loadAnswers() {
        Run.says("answers how many nodes it has.");
        for (int more = 0; more <= 28; more++) {
            Run.due("load", new Run().load("<a>" + "<b/>".repeat(more) + "</a>"), 2 + more);
        }
    }
}
