/** Promises 5 to 7: insert, delete, rename. */
public final class ChangeTest {
    private static final String BAD = "throws.IllegalArgumentException";
    private static final String OTHER = "throws.UnsupportedOperationException";
    private static final String STATE = "throws.IllegalStateException";
    private static final String INDEX = "throws.IndexOutOfBoundsException";

    public static void main(String[] args) {
        insertPlaces();
        insertKinds();
        insertJoins();
        insertWrongPlaces();
        insertWrongTexts();
        insertRoom();
        deletes();
        deleteJoins();
        deleteRefusals();
        renames();
        renameRefusals();
        resultsAfterChanges();
        Run.end("ChangeTest");
    }

    private static void inserts(String document, String text, int p, int where, Object answer, String printed) {
        Run run = Run.of(document);
        String call = "insert " + text + " at " + p + ", " + where + " of " + document;
        Run.due(call, run.insert(text, p, where), answer);
        Run.due("print after " + call, run.print(), printed);
        Run again = Run.of(printed);
        Run.due("nodes after " + call, run.all(), again.all());
    }

    private static void insertFails(String document, String text, int p, int where, String thrown) {
        Run run = Run.of(document);
        run.query("//node()", 0);
        String before = run.all() + run.print() + run.results();
        String call = "insert " + text + " at " + p + ", " + where + " of " + document;
        Run.due(call, run.insert(text, p, where), thrown);
        Run.due("state after " + call, run.all() + run.print() + run.results(), before);
        Run.due("buffer after " + call, run.bufferLength(), text.length());
    }

    private static void insertPlaces() {
        String document = "<a x=\"1\" y=\"2\"><b z=\"3\"><c/></b><d/></a>";
        inserts(document, "<e/>", 1, 0, 4, "<a x=\"1\" y=\"2\"><e/><b z=\"3\"><c/></b><d/></a>");
        inserts(document, "<e/>", 1, 1, 8, "<a x=\"1\" y=\"2\"><b z=\"3\"><c/></b><d/><e/></a>");
        inserts(document, "<e/>", 4, 2, 4, "<a x=\"1\" y=\"2\"><e/><b z=\"3\"><c/></b><d/></a>");
        inserts(document, "<e/>", 4, 3, 7, "<a x=\"1\" y=\"2\"><b z=\"3\"><c/></b><e/><d/></a>");
        inserts(document, "<e/>", 4, 0, 6, "<a x=\"1\" y=\"2\"><b z=\"3\"><e/><c/></b><d/></a>");
        inserts(document, "<e/>", 4, 1, 7, "<a x=\"1\" y=\"2\"><b z=\"3\"><c/><e/></b><d/></a>");
        inserts(document, "<e/>", 6, 0, 7, "<a x=\"1\" y=\"2\"><b z=\"3\"><c><e/></c></b><d/></a>");
        inserts(document, "<e/>", 7, 3, 8, "<a x=\"1\" y=\"2\"><b z=\"3\"><c/></b><d/><e/></a>");
        inserts("<a x=\"1\"/>", "t", 1, 0, 3, "<a x=\"1\">t</a>");
        inserts("<a x=\"1\"/>", "t", 1, 1, 3, "<a x=\"1\">t</a>");
        inserts("<!--o--><a/><!--p-->", "t", 2, 1, 3, "<!--o--><a>t</a><!--p-->");
        inserts("<a><!--c--></a>", "t", 2, 3, 3, "<a><!--c-->t</a>");
        inserts("<a><!--c--></a>", "t", 2, 2, 2, "<a>t<!--c--></a>");
        inserts("<a>t</a>", "<e/>", 2, 2, 2, "<a><e/>t</a>");
        inserts("<a>t</a>", "<e/>", 2, 3, 3, "<a>t<e/></a>");
    }

    private static void insertKinds() {
        inserts("<a><b/></a>", "<c x='1' y='2'>t<d/><!--e-->u</c>", 2, 2, 2,
            "<a><c x=\"1\" y=\"2\">t<d/><!--e-->u</c><b/></a>");
        inserts("<a><b/></a>", "<c></c \n>", 2, 3, 3, "<a><b/><c/></a>");
        inserts("<a><b/></a>", "<!---->", 2, 3, 3, "<a><b/><!----></a>");
        inserts("<a><b/></a>", "<!--& <-->", 2, 3, 3, "<a><b/><!--& <--></a>");
        inserts("<a><b/></a>", " \n", 2, 3, 3, "<a><b/> \n</a>");
        inserts("<a><b/></a>", "x&lt;&amp;&gt;&quot;&apos;>", 2, 3, 3, "<a><b/>x&lt;&amp;>\"'></a>");
        Run run = Run.of("<a><b>t</b></a>");
        run.insert("u<".replace("<", "&lt;"), 2, 2);
        Run.due("value(0)", run.value(0), "u<t");
        Run.due("value(1)", run.value(1), "u<t");
        Run.due("value(2)", run.value(2), "u<");
        Run.due("value(3)", run.value(3), "t");
    }

    private static void insertJoins() {
        inserts("<a>t</a>", "u", 1, 0, 2, "<a>ut</a>");
        inserts("<a>t</a>", "u", 1, 1, 2, "<a>tu</a>");
        inserts("<a>t</a>", "u", 2, 2, 2, "<a>ut</a>");
        inserts("<a>t</a>", "u", 2, 3, 2, "<a>tu</a>");
        inserts("<a>t<b/>v</a>", "u", 3, 2, 2, "<a>tu<b/>v</a>");
        inserts("<a>t<b/>v</a>", "u", 3, 3, 4, "<a>t<b/>uv</a>");
        inserts("<a>t<b>s</b>v</a>", "u", 3, 3, 5, "<a>t<b>s</b>uv</a>");
        inserts("<a><b>s</b></a>", "u", 2, 3, 4, "<a><b>s</b>u</a>");
        inserts("<a><b>s</b></a>", "u", 2, 2, 2, "<a>u<b>s</b></a>");
        inserts("<a x=\"1\">t</a>", "u", 1, 0, 3, "<a x=\"1\">ut</a>");
        inserts("<a>t<b/>v</a>", "<c>w</c>", 3, 3, 4, "<a>t<b/><c>w</c>v</a>");
        inserts("<a>t<b>s<c/></b></a>", "u", 3, 0, 4, "<a>t<b>us<c/></b></a>");
        Run run = Run.of("<a>t<b/>v</a>");
        run.insert("u", 3, 3);
        Run.due("nodes", run.store.nodes(), 5);
        Run.due("value(4)", run.value(4), "uv");
    }

    private static void insertWrongPlaces() {
        String document = "<!--o--><a x='1'>t<b/><!--c--></a>";
        int[][] wrong = {
            { -1, 0 }, { 7, 0 }, { 7, 2 }, { Integer.MIN_VALUE, 1 }, { Integer.MAX_VALUE, 3 }, { 2, -1 }, { 2, 4 },
            { 2, Integer.MAX_VALUE }, { 2, Integer.MIN_VALUE }, { 0, 0 }, { 0, 1 }, { 0, 2 }, { 0, 3 }, { 1, 0 }, { 1, 1 },
            { 1, 2 }, { 1, 3 }, { 2, 2 }, { 2, 3 }, { 3, 0 }, { 3, 1 }, { 3, 2 }, { 3, 3 }, { 4, 0 }, { 4, 1 }, { 6, 0 }, { 6, 1 } };
        for (int[] place : wrong) {
            insertFails(document, "<e/>", place[0], place[1], INDEX);
            insertFails(document, "<", place[0], place[1], INDEX);
            insertFails(document, "", place[0], place[1], INDEX);
        }
        Run.due("insert into a new store", new Run().insert("<a/>", 0, 0), INDEX);
    }

    private static void insertWrongTexts() {
        String[] bad = {
            "", "<", "</", "<b", "<b>", "<b/>t", "<b/> ", " <b/>", "<b/><c/>", "t<b/>", "t<", "t<?", "t<!--c-->", "<!--c-->t",
            "<!--c--><!--d-->", "<!--c--", "&", "t&x;", "</a>", "<b/><?", "<!--c--><!D", "<b x='1' x='2'/>", "<b></c>", "<!x" };
        for (String text : bad) {
            insertFails("<a><b/></a>", text, 2, 3, BAD);
        }
        for (String text : new String[] { "<?", "<!D", "<![", "<b><?", "<b>t<![CDATA[" }) {
            insertFails("<a><b/></a>", text, 2, 3, OTHER);
        }
    }

    private static void insertRoom() {
        String deep = "<a><b><c><d><e><f><g><h/></g></f></e></d></c></b></a>";
        insertFails(deep, "<i/>", 8, 0, STATE);
        insertFails(deep, "<i", 8, 1, STATE);
        insertFails(deep, "<i><j/></i>", 8, 2, STATE);
        insertFails(deep, "<i><j>", 7, 0, STATE);
        insertFails(deep, "<i></j>", 7, 0, BAD);
        inserts(deep, "<i/>", 8, 2, 8, deep.replace("<h/>", "<i/><h/>"));
        inserts(deep, "<!--i-->", 8, 1, 9, deep.replace("<h/>", "<h><!--i--></h>"));
        String full = "<a>" + "x<b/>".repeat(14) + "</a>";
        insertFails(full, "x", 2, 3, STATE);
        insertFails(full, "x", 3, 0, STATE);
        insertFails(full, "&", 3, 0, STATE);
        insertFails(full, "x<", 3, 0, STATE);
        insertFails(full, "<c/>", 3, 0, STATE);
        insertFails(full, "<c", 3, 0, STATE);
        insertFails(full, "<$", 3, 0, BAD);
        insertFails(full, "<!--c-->", 3, 0, STATE);
        insertFails(full, "<!--c--x", 3, 0, BAD);
        insertFails(full, "<?", 3, 0, OTHER);
        insertFails(full, "", 3, 0, BAD);
        insertFails(full, "x", 0, 0, INDEX);
        String nearlyFull = "<a>" + "x<b/>".repeat(13) + "<b/></a>";
        inserts(nearlyFull, "y", 2, 3, 2, nearlyFull.replaceFirst("x", "xy"));
        inserts(nearlyFull, "<c/>", 2, 2, 2, nearlyFull.replaceFirst("x", "<c/>x"));
        insertFails(nearlyFull, "<c x=''/>", 2, 2, STATE);
        insertFails(nearlyFull, "<c x='", 2, 2, BAD);
        insertFails(nearlyFull, "<c><d/></c>", 2, 2, STATE);
        insertFails(nearlyFull, "<c>x", 2, 2, STATE);
    }

    private static void deletesTo(String document, int p, Object answer, String printed) {
        Run run = Run.of(document);
        Run.due("delete " + p + " of " + document, run.delete(p), answer);
        Run.due("print after delete " + p + " of " + document, run.print(), printed);
        Run.due("nodes after delete " + p + " of " + document, run.all(), Run.of(printed).all());
    }

    private static void deletes() {
        String document = "<!--o--><a x=\"1\" y=\"2\">t<b z=\"3\"><c>u</c></b><!--d--></a><!--p-->";
        deletesTo(document, 1, 1, document.replace("<!--o-->", ""));
        deletesTo(document, 3, 1, document.replace(" x=\"1\"", ""));
        deletesTo(document, 4, 1, document.replace(" y=\"2\"", ""));
        deletesTo(document, 5, 1, document.replace("t<", "<"));
        deletesTo(document, 6, 4, document.replace("<b z=\"3\"><c>u</c></b>", ""));
        deletesTo(document, 7, 1, document.replace(" z=\"3\"", ""));
        deletesTo(document, 8, 2, document.replace("<c>u</c></b>", "</b>").replace("></b>", "/>"));
        deletesTo(document, 9, 1, document.replace("<c>u</c>", "<c/>"));
        deletesTo(document, 10, 1, document.replace("<!--d-->", ""));
        deletesTo(document, 11, 1, document.replace("<!--p-->", ""));
    }

    private static void deleteJoins() {
        deletesTo("<a>t<b/>u</a>", 3, 2, "<a>tu</a>");
        deletesTo("<a>t<b x=\"1\"><c/></b>u</a>", 3, 4, "<a>tu</a>");
        deletesTo("<a>t<!--c-->u<!--d-->v</a>", 3, 2, "<a>tu<!--d-->v</a>");
        deletesTo("<a>t<b/><c/>u</a>", 3, 1, "<a>t<c/>u</a>");
        deletesTo("<a><b>t</b><c/>u</a>", 4, 1, "<a><b>t</b>u</a>");
        deletesTo("<a>t<b/></a>", 3, 1, "<a>t</a>");
        deletesTo("<a><b/>t</a>", 2, 1, "<a>t</a>");
    }

    private static void deleteRefusals() {
        Run run = Run.of("<!--o--><a>t</a>");
        run.query("a", 0);
        Run.due("delete(0)", run.delete(0), STATE);
        Run.due("delete(2)", run.delete(2), STATE);
        Run.due("delete(4)", run.delete(4), INDEX);
        Run.due("delete(-1)", run.delete(-1), INDEX);
        Run.due("delete(min)", run.delete(Integer.MIN_VALUE), INDEX);
        Run.due("delete(max)", run.delete(Integer.MAX_VALUE), INDEX);
        Run.due("print", run.print(), "<!--o--><a>t</a>");
        Run.due("result", run.result(0), 2);
        Run.due("delete(0) of a new store", new Run().delete(0), STATE);
        Run.due("delete(1) of a new store", new Run().delete(1), INDEX);
    }

    private static void renames() {
        Run run = Run.of("<a x='1' y='2'><b>t</b></a>");
        Run.due("rename(1)", run.rename("longer-name_1", 1), 13);
        Run.due("print", run.print(), "<longer-name_1 x=\"1\" y=\"2\"><b>t</b></longer-name_1>");
        Run.due("rename(1)", run.rename("q", 1), 1);
        Run.due("rename(2)", run.rename("zz", 2), 2);
        Run.due("rename(3)", run.rename("x", 3), 1);
        Run.due("rename(3) to its own name", run.rename("x", 3), 1);
        Run.due("rename(4)", run.rename("q", 4), 1);
        Run.due("print", run.print(), "<q zz=\"1\" x=\"2\"><q>t</q></q>");
        Run.due("all", run.all(), Run.of("<q zz=\"1\" x=\"2\"><q>t</q></q>").all());
    }

    private static void renameRefusals() {
        Run run = Run.of("<a x='1' y='2'>t<!--c--><b x='3'/></a>");
        run.query("a", 0);
        String before = run.all() + run.print() + run.results();
        for (String name : new String[] { "", "1a", "-a", "_a", " a", "a ", "a b", "a.b", "a:b", "<a", "a\n" }) {
            Run.due("rename to '" + name + "'", run.rename(name, 1), BAD);
            Run.due("rename(2) to '" + name + "'", run.rename(name, 2), BAD);
            Run.due("rename(0) to '" + name + "'", run.rename(name, 0), STATE);
        }
        Run.due("rename to the other's name", run.rename("y", 2), BAD);
        Run.due("rename to the other's name", run.rename("x", 3), BAD);
        Run.due("buffer", run.bufferLength(), 1);
        Run.due("rename(4)", run.rename("n", 4), STATE);
        Run.due("rename(5)", run.rename("n", 5), STATE);
        Run.due("rename(0)", run.rename("n", 0), STATE);
        Run.due("rename(8)", run.rename("n", 8), INDEX);
        Run.due("rename(8)", run.rename("1", 8), INDEX);
        Run.due("rename(-1)", run.rename("n", -1), INDEX);
        Run.due("rename(max)", run.rename("n", Integer.MAX_VALUE), INDEX);
        Run.due("rename(min)", run.rename("n", Integer.MIN_VALUE), INDEX);
        Run.due("state", run.all() + run.print() + run.results(), before);
        Run.due("rename another element's attribute", run.rename("y", 7), 1);
        Run.due("an element may have an attribute's name", run.rename("x", 1), 1);
    }

    private static void resultsAfterChanges() {
        Run run = Run.of("<a><b/><c/></a>");
        run.query("//*", 0);
        Run.due("results", run.results(), " 1 2 3");
        run.insert("t", 1, 0);
        Run.due("result after insert", run.result(0), INDEX);
        run.query("//*", 0);
        run.delete(2);
        Run.due("result after delete", run.result(0), INDEX);
        run.query("//*", 0);
        run.rename("n", 1);
        Run.due("result after rename", run.result(0), INDEX);
        run.query("//*", 0);
        Run.due("results", run.results(), " 1 2 3");
    }
}
