/** Promises 10 to 16: nodes, kind, size, level, name, value, print. */
public final class LookTest {
    private static final int[] NOWHERE = { -1, 12, 30, 31, Integer.MIN_VALUE, Integer.MAX_VALUE };

    public static void main(String[] args) {
        numbers();
        nowhere();
        names();
        values();
        prints();
        printEscapes();
        longTexts();
        Run.end("LookTest");
    }

    private static Run sample() {
        return Run.of("<!--o--><a x='1' yy='two'>t<b>u<c/>v</b><!--d--></a>");
    }

    private static void numbers() {
        Run run = sample();
        int[] kinds = { 0, 4, 1, 2, 2, 3, 1, 3, 1, 3, 4 };
        int[] sizes = { 10, 0, 8, 0, 0, 0, 3, 0, 0, 0, 0 };
        int[] levels = { 0, 1, 1, 2, 2, 2, 2, 3, 3, 3, 2 };
        Run.due("nodes()", run.store.nodes(), 11);
        for (int p = 0; p < kinds.length; p++) {
            Run.due("kind " + p, run.store.kind(p), kinds[p]);
            Run.due("size " + p, run.store.size(p), sizes[p]);
            Run.due("level " + p, run.store.level(p), levels[p]);
        }
        run.insert("w", 8, 0);
        Run.due("nodes() after insert", run.store.nodes(), 12);
        Run.due("size(6) after insert", run.store.size(6), 4);
        run.delete(6);
        Run.due("nodes() after delete", run.store.nodes(), 7);
        Run.due("kind(6) after delete", run.store.kind(6), 4);
    }

    private static void nowhere() {
        for (Run run : new Run[] { sample(), new Run() }) {
            for (int p : NOWHERE) {
                Run.due("kind " + p, run.store.kind(p), -1);
                Run.due("size " + p, run.store.size(p), -1);
                Run.due("level " + p, run.store.level(p), -1);
                Run.due("name " + p, run.store.name(p, 0), 0);
                Run.due("value " + p, run.store.value(p, 0), 0);
            }
        }
        Run.due("kind(11)", sample().store.kind(11), -1);
        Run run = sample();
        for (int k : new int[] { -1, 1000, 5000, Integer.MIN_VALUE, Integer.MAX_VALUE }) {
            for (int p = 0; p < 11; p++) {
                Run.due("name " + p + ", " + k, run.store.name(p, k), 0);
                Run.due("value " + p + ", " + k, run.store.value(p, k), 0);
            }
            Run.due("print " + k, run.store.print(k), 0);
        }
    }

    private static void names() {
        Run run = sample();
        String[] names = { "", "", "a", "x", "yy", "", "b", "", "c", "", "" };
        for (int p = 0; p < names.length; p++) {
            Run.due("name " + p, run.name(p), names[p]);
        }
        Run.due("name(4, 1)", run.store.name(4, 1), (int) 'y');
        Run.due("name(4, 2)", run.store.name(4, 2), 0);
    }

    private static void values() {
        Run run = sample();
        String[] values = { "tuv", "o", "tuv", "1", "two", "t", "uv", "u", "", "v", "d" };
        for (int p = 0; p < values.length; p++) {
            Run.due("value " + p, run.value(p), values[p]);
        }
        Run.due("value(6, 1)", run.store.value(6, 1), (int) 'v');
        Run.due("value(6, 2)", run.store.value(6, 2), 0);
        Run.due("value(5, 1)", run.store.value(5, 1), 0);
    }

    private static void prints(String text, String printed) {
        Run run = Run.of(text);
        Run.due("print of " + text, run.print(), printed);
        Run.due("print behind the end of " + text, run.store.print(printed.length()), 0);
        Run.due("print again of " + text, Run.of(printed).print(), printed);
    }

    private static void prints() {
        prints("<a></a >", "<a/>");
        prints("<a \n/>", "<a/>");
        prints("<a x='1'  y = '2'/>".replace(" = ", "="), "<a x=\"1\" y=\"2\"/>");
        prints("<a x='1'></a>", "<a x=\"1\"/>");
        prints("<a><b/></a>", "<a><b/></a>");
        prints("<a><b x=''/></a>", "<a><b x=\"\"/></a>");
        prints("<a> </a>", "<a> </a>");
        prints("<a><!----></a>", "<a><!----></a>");
        prints(" <!--1-->\n<!--2--> <a>t<b>u</b>v</a> <!--3--> ", "<!--1--><!--2--><a>t<b>u</b>v</a><!--3-->");
        prints("<a><b><c><d>t</d></c></b></a>", "<a><b><c><d>t</d></c></b></a>");
        prints("<a><b><c x='1'/></b></a>", "<a><b><c x=\"1\"/></b></a>");
        prints("<a><b><c><d/></c></b>t</a>", "<a><b><c><d/></c></b>t</a>");
    }

    private static void printEscapes() {
        prints("<a>&lt;&gt;&amp;&quot;&apos;\n</a>", "<a>&lt;>&amp;\"'\n</a>");
        prints("<a x='&lt;&gt;&amp;&quot;&apos;\"\n'/>", "<a x=\"&lt;>&amp;&quot;'&quot;\n\"/>");
        prints("<a><!--&lt;<>&\"'--></a>", "<a><!--&lt;<>&\"'--></a>");
        prints("<a>&amp;amp;</a>", "<a>&amp;amp;</a>");
    }

    /** As much as 512 calls can type. */
    private static void longTexts() {
        TreeStore store = new TreeStore();
        store.type(Run.eight("<a/>"));
        store.load();
        StringBuilder all = new StringBuilder();
        for (int i = 0; i < 255; i++) {
            store.type(Run.eight("abcdefg" + (char) ('A' + i % 26)));
            all.append("abcdefg").append((char) ('A' + i % 26));
            Run.due("insert", store.insert(1, 1), 2);
        }
        Run.due("nodes", store.nodes(), 3);
        for (int k = 0; k < all.length(); k++) {
            Run.due("value " + k, store.value(1, k), (int) all.charAt(k));
            Run.due("print " + k, store.print(3 + k), (int) all.charAt(k));
        }
        Run.due("value at the end", store.value(0, all.length()), 0);
        Run.due("print at the end", store.print(3 + all.length() + 4), 0);
    }
}
