/** The edges of promises 10 to 16, a sentence at a time. */
public final class LookEdgesTest {
    private static final String FULL = "<a>" + "<b/>".repeat(28) + "</a>";
    private static final int[] BEYOND = { -1, -2, 31, 32, 63, 64, 1 << 16, Integer.MIN_VALUE, Integer.MIN_VALUE + 1, Integer.MAX_VALUE };

    public static void main(String[] args) {
        nodes();
        kinds();
        sizes();
        levels();
        names();
        values();
        printOfElements();
        printOfAttributes();
        printOfOthers();
        printEscapes();
        printOfTheDocument();
        printBeyond();
        Run.end("LookEdgesTest");
    }

    private static void nodes() {
        Run.says("How many nodes there are.");
        Run run = new Run();
        Run.due("new", run.store.nodes(), 1);
        run.load("<a/>");
        Run.due("the smallest document", run.store.nodes(), 2);
        run.load(FULL);
        Run.due("the largest", run.store.nodes(), 30);
        run.insert("x", 1, 0);
        Run.due("after a refused insert", run.store.nodes(), 30);
        run.load("<");
        Run.due("after a refused load", run.store.nodes(), 30);
        run.delete(5);
        Run.due("after delete", run.store.nodes(), 29);
    }

    /** All of kind, size and level, so that none of them reads where no node is. */
    private static void nowhere(Run run) {
        int n = run.store.nodes();
        for (int i = -1; i < BEYOND.length; i++) {
            int p = i < 0 ? n : BEYOND[i];
            Run.due("kind " + p + " of " + n, run.store.kind(p), -1);
            Run.due("size " + p + " of " + n, run.store.size(p), -1);
            Run.due("level " + p + " of " + n, run.store.level(p), -1);
            for (int k : new int[] { -1, 0, 1, Integer.MAX_VALUE, Integer.MIN_VALUE }) {
                Run.due("name " + p + " of " + n, run.store.name(p, k), 0);
                Run.due("value " + p + " of " + n, run.store.value(p, k), 0);
            }
        }
    }

    private static void kinds() {
        Run.says("The kind of node p; -1 when there is none.");
        nowhere(new Run());
        nowhere(Run.of("<a/>"));
        nowhere(Run.of(FULL));
        Run run = Run.of("<!--o--><a x='1'>t</a>");
        int[] kinds = { 0, 4, 1, 2, 3, -1 };
        for (int p = 0; p < kinds.length; p++) {
            Run.due("kind " + p, run.store.kind(p), kinds[p]);
        }
        run.load("<a/>");
        nowhere(run);
        Run.due("kind(2) of what was there", run.store.kind(2), -1);
        run.insert("t", 1, 0);
        Run.due("kind(2) of what came in", run.store.kind(2), 3);
        run.delete(2);
        nowhere(run);
    }

    private static void sizes() {
        Run.says("How many nodes are below node p, attributes too; -1 when there is none.");
        Run.due("size of a new document", new Run().store.size(0), 0);
        Run.due("size(0) of 30", Run.of(FULL).store.size(0), 29);
        Run.due("size(1) of 30", Run.of(FULL).store.size(1), 28);
        Run.due("size(29) of 30", Run.of(FULL).store.size(29), 0);
        Run.due("size(30) of 30", Run.of(FULL).store.size(30), -1);
        Run.due("size with attributes alone", Run.of("<a x='' y=''/>").store.size(1), 2);
        Run run = Run.of("<a x=''><b y='' z=''>t</b><!--c--></a>");
        int[] sizes = { 7, 6, 0, 3, 0, 0, 0, 0, -1 };
        for (int p = 0; p < sizes.length; p++) {
            Run.due("size " + p, run.store.size(p), sizes[p]);
        }
        run.delete(4);
        Run.due("size(1) with an attribute less", run.store.size(1), 5);
        Run.due("size(3) with an attribute less", run.store.size(3), 2);
    }

    private static void levels() {
        Run.says("How deep node p lies: the document 0, others one more than their parent; -1 when there is none.");
        Run run = Run.of("<!--o--><a x=''><b y=''>t</b></a>");
        int[] levels = { 0, 1, 1, 2, 2, 3, 3, -1 };
        for (int p = 0; p < levels.length; p++) {
            Run.due("level " + p, run.store.level(p), levels[p]);
        }
        Run deep = Run.of("<a><a><a><a><a><a><a><a x=''>t<!--c--></a></a></a></a></a></a></a></a>");
        for (int p = 0; p <= 8; p++) {
            Run.due("level " + p + " of the deepest", deep.store.level(p), p);
        }
        for (int p = 9; p <= 11; p++) {
            Run.due("level " + p + " in the deepest", deep.store.level(p), 9);
        }
    }

    private static void names() {
        Run.says("Character k, from 0, of the name of node p; 0 when there is none.");
        Run run = Run.of("<!--o--><ab x-1='v'>t</ab>");
        String[] names = { "", "", "ab", "x-1", "" };
        for (int p = 0; p < names.length; p++) {
            for (int k = 0; k < names[p].length(); k++) {
                Run.due("name " + p + ", " + k, run.store.name(p, k), (int) names[p].charAt(k));
            }
            Run.due("name at its end", run.store.name(p, names[p].length()), 0);
            for (int k : BEYOND) {
                Run.due("name " + p + ", " + k, run.store.name(p, k), 0);
            }
        }
        run.rename("c", 2);
        Run.due("name of one that is shorter now", run.store.name(2, 0), (int) 'c');
        Run.due("behind its end", run.store.name(2, 1), 0);
        Run.due("name of its attribute", run.name(3), "x-1");
    }

    private static void values() {
        Run.says("Character k, from 0, of the string-value of node p; 0 when there is none.");
        Run run = Run.of("<!--o--><a x='vw' y=''>t<b/>&lt;<c>\n </c></a>");
        String[] values = { "t<\n ", "o", "t<\n ", "vw", "", "t", "", "<", "\n ", "\n " };
        for (int p = 0; p < values.length; p++) {
            for (int k = 0; k < values[p].length(); k++) {
                Run.due("value " + p + ", " + k, run.store.value(p, k), (int) values[p].charAt(k));
            }
            Run.due("value at its end", run.store.value(p, values[p].length()), 0);
            for (int k : BEYOND) {
                Run.due("value " + p + ", " + k, run.store.value(p, k), 0);
            }
        }
    }

    private static void prints(String text, String printed) {
        Run run = Run.of(text);
        for (int k = 0; k < printed.length(); k++) {
            Run.due("print " + k + " of " + text, run.store.print(k), (int) printed.charAt(k));
        }
        Run.due("print behind the end of " + text, run.store.print(printed.length()), 0);
        for (int k : new int[] { -1, printed.length() + 1, Integer.MIN_VALUE, Integer.MAX_VALUE }) {
            Run.due("print " + k + " of " + text, run.store.print(k), 0);
        }
    }

    private static void printOfElements() {
        Run.says("then /> if it has no children, otherwise >, its children, </ NAME >");
        prints("<a></a>", "<a/>");
        prints("<a x='1'></a>", "<a x=\"1\"/>");
        prints("<a> </a>", "<a> </a>");
        prints("<a><!----></a>", "<a><!----></a>");
        prints("<a><b></b><b/></a>", "<a><b/><b/></a>");
        prints("<a><b><c><d/></c></b><e>t</e></a>", "<a><b><c><d/></c></b><e>t</e></a>");
        prints("<a><b><c x='1'/></b></a>", "<a><b><c x=\"1\"/></b></a>");
        Run run = Run.of("<a x='1'><b/></a>");
        run.delete(3);
        Run.due("print without its child", run.print(), "<a x=\"1\"/>");
        run.insert("t", 1, 0);
        Run.due("print with a child again", run.print(), "<a x=\"1\">t</a>");
    }

    private static void printOfAttributes() {
        Run.says("of each attribute a space, NAME, =\", its characters, \"");
        prints("<a x=''/>", "<a x=\"\"/>");
        prints("<a\n x='1'\n\n y='2'  />", "<a x=\"1\" y=\"2\"/>");
        prints("<a x='1'><b y='2'>t</b></a>", "<a x=\"1\"><b y=\"2\">t</b></a>");
    }

    private static void printOfOthers() {
        Run.says("of a comment <!-- its characters -->; of a text its characters.");
        prints("<a><!--c-d--></a>", "<a><!--c-d--></a>");
        prints("<a><!--&<>\"'&amp;--></a>", "<a><!--&<>\"'&amp;--></a>");
        prints("<a>\n t'\"</a>", "<a>\n t'\"</a>");
    }

    private static void printEscapes() {
        Run.says("Of the characters of texts and attributes & is printed as &amp;, < as &lt;, and in an attribute \" as &quot;.");
        prints("<a>&amp;&lt;&gt;&quot;&apos;>\"'</a>", "<a>&amp;&lt;>\"'>\"'</a>");
        prints("<a x='&amp;&lt;&gt;&quot;&apos;>\"'/>", "<a x=\"&amp;&lt;>&quot;'>&quot;\"/>");
        prints("<a>&amp;amp;</a>", "<a>&amp;amp;</a>");
        prints("<a>&amp;</a>", "<a>&amp;</a>");
        prints("<a x='&lt;'/>", "<a x=\"&lt;\"/>");
        // What is printed may be longer than what the buffer can hold.
        prints("<a x='" + "\"".repeat(100) + "'/>", "<a x=\"" + "&quot;".repeat(100) + "\"/>");
    }

    private static void printOfTheDocument() {
        Run.says("The document prints its children.");
        prints(" <!--1--> <!--2--><a/>\n<!--3-->", "<!--1--><!--2--><a/><!--3-->");
        prints("\n<a/> ", "<a/>");
        prints(FULL, FULL);
        prints("<a>t</a><!--p-->", "<a>t</a><!--p-->");
        prints("<a><b><c/></b></a><!--p-->", "<a><b><c/></b></a><!--p-->");
    }

    private static void printBeyond() {
        Run.says("Character k, from 0, of the printed tree, 0 when there is none");
        TreeStore store = new TreeStore();
        for (int k : new int[] { 0, 1, -1, Integer.MIN_VALUE, Integer.MAX_VALUE }) {
            Run.due("print " + k + " of a new store", store.print(k), 0);
        }
        Run run = Run.of("<a/>");
        for (int k : BEYOND) {
            Run.due("print " + k, run.store.print(k), 0);
        }
        Run.due("print(3)", run.store.print(3), (int) '>');
        Run.due("print(4)", run.store.print(4), 0);
        Run.due("print(0) behind print(4)", run.store.print(0), (int) '<');
    }
}
