/** Promise 4: load, with what the document says of texts, nodes and room. */
public final class LoadTest {
    private static final String BAD = "throws.IllegalArgumentException";
    private static final String OTHER = "throws.UnsupportedOperationException";
    private static final String FULL = "throws.IllegalStateException";

    public static void main(String[] args) {
        nodes();
        attributes();
        comments();
        characters();
        wrongTexts();
        otherMarkup();
        roomForNodes();
        roomForDepth();
        firstThingWrong();
        throwChangesNothing();
        Run.end("LoadTest");
    }

    private static void loads(String text, String all) {
        Run run = new Run();
        String answer = run.load(text);
        Run.due("nodes of " + text, run.all(), all);
        Run.due("load " + text, answer, run.store.nodes());
    }

    private static void refuses(String text, String thrown) {
        Run run = Run.of("<old>1</old>");
        run.query("//old", 0);
        Run.due("load " + text, run.load(text), thrown);
        Run.due("print after " + text, run.print(), "<old>1</old>");
        Run.due("results after " + text, run.results(), " 1");
        Run.due("buffer after " + text, run.bufferLength(), text.length());
    }

    private static void nodes() {
        loads("<a/>", "0,0,1,,;1,1,0,a,;");
        loads("<a></a>", "0,0,1,,;1,1,0,a,;");
        loads(" \n<a \n></a\n > \n", "0,0,1,,;1,1,0,a,;");
        loads("<a />", "0,0,1,,;1,1,0,a,;");
        loads("<a> </a>", "0,0,2,,;" .replace(",,;", ",, ;") + "1,1,1,a, ;3,2,0,, ;");
        loads("<aZ9-_q/>", "0,0,1,,;1,1,0,aZ9-_q,;");
        loads("<a->x</a->", "0,0,2,,x;1,1,1,a-,x;3,2,0,,x;");
        loads("<a>x<b>y</b>z<!--c-->w</a>",
            "0,0,7,,xyzw;1,1,6,a,xyzw;3,2,0,,x;1,2,1,b,y;3,3,0,,y;3,2,0,,z;4,2,0,,c;3,2,0,,w;");
        Run run = Run.of("<a>old</a>");
        Run.due("load again", run.load("<b/>"), 2);
        Run.due("print", run.print(), "<b/>");
    }

    private static void attributes() {
        loads("<a x='1' y=\"2\">t</a>", "0,0,4,,t;1,1,3,a,t;2,2,0,x,1;2,2,0,y,2;3,2,0,,t;");
        loads("<a y='' \n x=\"\"/>", "0,0,3,,;1,1,2,a,;2,2,0,y,;2,2,0,x,;");
        loads("<a x='\"' y=\"'\"/>", "0,0,3,,;1,1,2,a,;2,2,0,x,\";2,2,0,y,';");
        loads("<a x='&lt;&gt;&amp;&quot;&apos;>'/>", "0,0,2,,;1,1,1,a,;2,2,0,x,<>&\"'>;");
        loads("<a x='\n -- /> '/>", "0,0,2,,;1,1,1,a,;2,2,0,x,\n -- /> ;");
        loads("<a x='1'><b x='2'/></a>", "0,0,4,,;1,1,3,a,;2,2,0,x,1;1,2,1,b,;2,3,0,x,2;");
        loads("<a xx='1' x='2' X='3'/>", "0,0,4,,;1,1,3,a,;2,2,0,xx,1;2,2,0,x,2;2,2,0,X,3;");
    }

    private static void comments() {
        loads("<!--1--> <!--2--><a/>\n<!--3-->", "0,0,4,,;4,1,0,,1;4,1,0,,2;1,1,0,a,;4,1,0,,3;");
        loads("<!----><a/>", "0,0,2,,;4,1,0,,;1,1,0,a,;");
        loads("<!--->--><a/>", "0,0,2,,;4,1,0,,->;1,1,0,a,;");
        loads("<!--a-b<c>&d;&lt;'\n--><a/>", "0,0,2,,;4,1,0,,a-b<c>&d;&lt;'\n;1,1,0,a,;");
        loads("<a>x<!--<b>--></a>", "0,0,3,,x;1,1,2,a,x;3,2,0,,x;4,2,0,,<b>;");
        refuses("<!--a--b--><a/>", BAD);
        refuses("<!--a---><a/>", BAD);
        refuses("<!-----><a/>", BAD);
        refuses("<!-a--><a/>", BAD);
        refuses("<!--a-><a/>", BAD);
        refuses("<!--><a/>", BAD);
        refuses("<!X--><a/>", BAD);
        refuses("<! --><a/>", BAD);
        refuses("<!--a--", BAD);
        refuses("<!--a--><!--b-->", BAD);
        refuses("< !--a--><a/>", BAD);
    }

    private static void characters() {
        loads("<a>&lt;&gt;&amp;&quot;&apos;</a>", "0,0,2,,<>&\"';1,1,1,a,<>&\"';3,2,0,,<>&\"';");
        loads("<a>&amp;lt;</a>", "0,0,2,,&lt;;1,1,1,a,&lt;;3,2,0,,&lt;;");
        loads("<a>]]>'\"=/!?\n</a>", "0,0,2,,]]>'\"=/!?\n;1,1,1,a,]]>'\"=/!?\n;3,2,0,,]]>'\"=/!?\n;");
        refuses("<a>&</a>", BAD);
        refuses("<a>&lt</a>", BAD);
        refuses("<a>&LT;</a>", BAD);
        refuses("<a>&l t;</a>", BAD);
        refuses("<a>&#60;</a>", BAD);
        refuses("<a>&apos</a>", BAD);
        refuses("<a x='&'/>", BAD);
        refuses("<a x='&lt'/>", BAD);
        refuses("<a x='<'/>", BAD);
    }

    private static void wrongTexts() {
        String[] texts = {
            "", " ", "\n", "a", "<", "<a", "<a>", "<a/", "<a></", "<a></a", "<a></a ", "<a><", "<a>x", "x<a/>", "<a/>x",
            "<a/><b/>", "<a/></a>", "</a>", "<a></b>", "<a></ab>", "<ab></a>", "<a></A>", "<a></ a>", "< a/>", "<a/ >",
            "<1/>", "<-a/>", "<_a/>", "<a:b/>", "<a.b/>", "<a$/>", "<a/>&lt;", "&lt;<a/>", "<>", "</>", "<a><></a>",
            "<a x/>", "<a x=/>", "<a x=1/>", "<a x='1/>", "<a x='1\"/>", "<a x ='1'/>", "<a x= '1'/>", "<a ='1'/>",
            "<a x='1'y='2'/>", "<a x='1' x='2'/>", "<a x='1' y='2' x='1'/>", "<ax='1'/>", "<a x='1'", "<a x='1'>",
            "<a 1='1'/>", "<a></a x='1'>", "<a><b></a></b>", "<a><b></a>", "<a/>/", "<a//>", "<a>>/a>", "<a/><!-",
            "<a/><!--", "<a/><", "<a/><!", "<a/><!a", "<a><!/a>" };
        for (String text : texts) {
            refuses(text, BAD);
        }
    }

    private static void otherMarkup() {
        String[] texts = {
            "<?", "<?xml?><a/>", "<!D", "<!DOCTYPE a><a/>", "<![", "<![CDATA[x]]><a/>", " \n<?", "<!--c--><?",
            "<a><?", "<a><?p?></a>", "<a><!D", "<a><![CDATA[x]]></a>", "<a>x<?", "<a><b/><![", "<a/><?", "<a/> <!D", "<a/><![",
            "<a/><!--c--><?", "<!D x='<'>" };
        for (String text : texts) {
            refuses(text, OTHER);
        }
        refuses("<a <?", BAD);
        refuses("<a x='<?'/>", BAD);
        refuses("<a x=<?", BAD);
        refuses("<a/<?", BAD);
        refuses("</?", BAD);
        refuses("< ?", BAD);
        refuses("<! D", BAD);
        refuses("<!d", BAD);
        refuses("<!", BAD);
        refuses("x<?", BAD);
        refuses("<a/>x<?", BAD);
        loads("<a><!--<?--></a>", "0,0,2,,;1,1,1,a,;4,2,0,,<?;");
    }

    private static void roomForNodes() {
        // The document, its element and 28 more are 30.
        String full = "<a>" + "<b/>".repeat(28) + "</a>";
        Run.due("load 30", new Run().load(full), 30);
        String texts = "<a>" + "x<b/>".repeat(14);
        Run.due("load 30 with texts", new Run().load(texts + "</a>"), 30);
        refuses(texts + "x</a>", FULL);
        refuses(texts + "<b/></a>", FULL);
        refuses(texts + "<!--c--></a>", FULL);
        refuses(texts + "<b x='1'/></a>", FULL);
        refuses(texts + "</a><!--c-->", FULL);
        Run.due("blanks need no room", new Run().load(" " + texts + "</a> \n"), 30);
        String attributes = "<a>" + "x<b/>".repeat(13) + "x<b";
        Run.due("load 30, the last an element", new Run().load(attributes + "/></a>"), 30);
        refuses(attributes + " y=''/></a>", FULL);
    }

    private static void roomForDepth() {
        String deep = "<a><b><c><d><e><f><g><h>";
        String ends = "</h></g></f></e></d></c></b></a>";
        Run.due("load 8 deep", new Run().load(deep + "t<!--c-->" + ends), 11);
        refuses(deep + "<i/>" + ends, FULL);
        refuses(deep + "<i", FULL);
        refuses(deep + "<ijk$", FULL);
        refuses(deep + "</h><h><i/>", FULL);
        refuses(deep + "<", BAD);
        refuses(deep + "<1", BAD);
        refuses(deep + "<?", OTHER);
    }

    /** With 30 nodes there: what is wrong before the place where room is asked for comes first. */
    private static void firstThingWrong() {
        String full = "<a>" + "x<b/>".repeat(14);
        refuses(full + "<c", FULL);
        refuses(full + "<c$", FULL);
        refuses(full + "<$", BAD);
        refuses(full + "</b>", BAD);
        refuses(full + "<?", OTHER);
        refuses(full + "<!D", OTHER);
        refuses(full + "<!--", BAD);
        refuses(full + "<!--c--", BAD);
        refuses(full + "<!--c--x", BAD);
        refuses(full + "<!--c-->", FULL);
        refuses(full + "x", FULL);
        refuses(full + "x<$", FULL);
        refuses(full + "&", FULL);
        refuses(full, BAD);
        refuses(full + "</a>x", BAD);
        refuses(full + "</a><!--c-->x", FULL);
        refuses(full + "</a><c", BAD);
        refuses(full + "</a><?", OTHER);
        String beforeAttribute = "<a>" + "x<b/>".repeat(13) + "x<b";
        refuses(beforeAttribute + " y=''", FULL);
        refuses(beforeAttribute + " y='", BAD);
        refuses(beforeAttribute + " y='&x", BAD);
        refuses(beforeAttribute + " y=x", BAD);
        refuses(beforeAttribute + " y", BAD);
        String beforeSecond = "<a>" + "x<b/>".repeat(13) + "<b y=''";
        Run.due("30 with an attribute", new Run().load(beforeSecond + "/></a>"), 30);
        refuses(beforeSecond + " y=''", BAD);
        refuses(beforeSecond + " z=''", FULL);
        refuses("<?<", OTHER);
        refuses("<a></b><?", BAD);
        refuses("<a x='1' x='2'><?", BAD);
    }

    private static void throwChangesNothing() {
        Run run = Run.of("<a x='1'>t</a>");
        String before = run.all();
        run.load("<b y='2'>u<c/></d>");
        Run.due("all after a load that throws", run.all(), before);
        run.query("a", 0);
        run.load("<b/>");
        Run.due("result after load", run.result(0), "throws.IndexOutOfBoundsException");
    }
}
