/** The edges of promises 5 to 7, a sentence at a time. */
public final class ChangeEdgesTest {
    private static final String BAD = "throws.IllegalArgumentException";
    private static final String OTHER = "throws.UnsupportedOperationException";
    private static final String STATE = "throws.IllegalStateException";
    private static final String INDEX = "throws.IndexOutOfBoundsException";

    // 30 nodes: 1 a, 2 a text, 3 b, 4 a text, 5 b and so on; and 29 of them.
    private static final String FULL = "<a>" + "x<b/>".repeat(14) + "</a>";
    private static final String NEARLY_FULL = "<a>" + "x<b/>".repeat(13) + "x</a>";
    private static final String DEEP = "<a><b><c><d><e><f><g><h/></g></f></e></d></c></b></a>";
    private static final int[] NO_NODES = { -1, 8, 29, 30, 31, 32, 64, Integer.MIN_VALUE, Integer.MAX_VALUE };

    public static void main(String[] args) {
        insertOneOf();
        insertMoreThanOne();
        insertFirstChild();
        insertLastChild();
        insertBeforeAndBehind();
        insertSideBySide();
        insertNotSideBySide();
        insertNoNode();
        insertNoWhere();
        insertNotAsSaid();
        insertIndexComesFirst();
        insertThrowsWhatLoadThrows();
        insertDepth();
        insertRoom();
        insertRoomForText();
        insertFirstThing();
        deleteAllBelow();
        deleteSideBySide();
        deleteAnswers();
        deleteNoNode();
        deleteWhatStays();
        renameAnswers();
        renameNoNode();
        renameOtherKinds();
        renameNoName();
        renameTaken();
        Run.end("ChangeEdgesTest");
    }

    private static void inserts(String document, String text, int p, int where, int answer, String printed) {
        Run run = Run.of(document);
        String call = "insert " + text + " at " + p + ", " + where + " of " + document;
        Run.due(call, run.insert(text, p, where), answer);
        Run.due("all after " + call, run.print() + run.all(), printed + Run.of(printed).all());
    }

    private static void insertFails(String document, String text, int p, int where, String thrown) {
        Run run = Run.of(document);
        String before = run.state();
        String call = "insert " + text + " at " + p + ", " + where + " of " + document;
        Run.due(call, run.insert(text, p, where), thrown);
        Run.due("what is seen after " + call, run.state(), before);
        Run.due("the buffer after " + call, run.bufferLength(), text.length());
    }

    private static void insertOneOf() {
        Run.says("What is in the buffer, one element, one comment, or one or more characters (a text), comes into the tree");
        inserts("<a/>", "<b/>", 1, 0, 2, "<a><b/></a>");
        inserts("<a/>", "<b x='1'>t<c/></b >", 1, 0, 2, "<a><b x=\"1\">t<c/></b></a>");
        inserts("<a/>", "<!---->", 1, 0, 2, "<a><!----></a>");
        inserts("<a/>", "<!--<b/>&-->", 1, 0, 2, "<a><!--<b/>&--></a>");
        inserts("<a/>", "t", 1, 0, 2, "<a>t</a>");
        inserts("<a/>", " ", 1, 0, 2, "<a> </a>");
        inserts("<a/>", "\n", 1, 0, 2, "<a>\n</a>");
        inserts("<a/>", "&lt;", 1, 0, 2, "<a>&lt;</a>");
        Run run = Run.of("<a/>");
        Run.due("insert of 120 characters", run.insert("t".repeat(120), 1, 0), 2);
        Run.due("print", run.print(), "<a>" + "t".repeat(120) + "</a>");
    }

    private static void insertMoreThanOne() {
        for (String text : new String[] {
            "", "<b/><c/>", "<b/>t", "t<b/>", " <b/>", "<b/> ", "\n<b></b>", "<b></b>\n", "<!--c--><!--d-->", "<!--c-->t", "t<!--c-->",
            "<!--c--> ",
            " <!--c-->", "<!--c--><b/>", "<b/><!--c-->", "t</a>", "</a>" }) {
            insertFails("<a/>", text, 1, 0, BAD);
            insertFails("<a>u<c/></a>", text, 3, 3, BAD);
        }
    }

    private static void insertFirstChild() {
        Run.says("as the first child of element p (where = 0)");
        inserts("<a/>", "<n/>", 1, 0, 2, "<a><n/></a>");
        inserts("<a x=\"1\" y=\"2\"/>", "<n/>", 1, 0, 4, "<a x=\"1\" y=\"2\"><n/></a>");
        inserts("<a x=\"1\">t</a>", "<n/>", 1, 0, 3, "<a x=\"1\"><n/>t</a>");
        inserts("<a><b x=\"1\"><c/></b></a>", "<n/>", 2, 0, 4, "<a><b x=\"1\"><n/><c/></b></a>");
        inserts("<!--o--><a><b/></a>", "<n/>", 2, 0, 3, "<!--o--><a><n/><b/></a>");
    }

    private static void insertLastChild() {
        Run.says("its last child (1)");
        inserts("<a/>", "<n/>", 1, 1, 2, "<a><n/></a>");
        inserts("<a x=\"1\" y=\"2\"/>", "<n/>", 1, 1, 4, "<a x=\"1\" y=\"2\"><n/></a>");
        inserts("<a><b><c>t</c></b></a>", "<n/>", 1, 1, 5, "<a><b><c>t</c></b><n/></a>");
        inserts("<a><b><c>t</c></b></a>", "<n/>", 2, 1, 5, "<a><b><c>t</c><n/></b></a>");
        inserts("<a><b><c>t</c></b></a>", "<n/>", 3, 1, 5, "<a><b><c>t<n/></c></b></a>");
        inserts("<a><b/></a><!--p-->", "<n/>", 1, 1, 3, "<a><b/><n/></a><!--p-->");
    }

    private static void insertBeforeAndBehind() {
        Run.says("right before node p (2) or right behind it (3), p being a child of an element.");
        inserts("<a><b/></a>", "<n/>", 2, 2, 2, "<a><n/><b/></a>");
        inserts("<a><b/></a>", "<n/>", 2, 3, 3, "<a><b/><n/></a>");
        inserts("<a x=\"1\">t</a>", "<n/>", 3, 2, 3, "<a x=\"1\"><n/>t</a>");
        inserts("<a x=\"1\">t</a>", "<n/>", 3, 3, 4, "<a x=\"1\">t<n/></a>");
        inserts("<a><!--c--></a>", "<n/>", 2, 2, 2, "<a><n/><!--c--></a>");
        inserts("<a><!--c--></a>", "<n/>", 2, 3, 3, "<a><!--c--><n/></a>");
        inserts("<a><b x=\"1\"><c>t</c></b>u</a>", "<n/>", 2, 3, 6, "<a><b x=\"1\"><c>t</c></b><n/>u</a>");
        inserts("<a><b><c/></b></a>", "<n/>", 3, 3, 4, "<a><b><c/><n/></b></a>");
    }

    private static void insertSideBySide() {
        Run.says("Two texts that come to lie side by side become one node. "
            + "Answers the number of what came in, or of the text that it became a part of.");
        inserts("<a>t</a>", "n", 1, 0, 2, "<a>nt</a>");
        inserts("<a>t</a>", "n", 1, 1, 2, "<a>tn</a>");
        inserts("<a>t</a>", "n", 2, 2, 2, "<a>nt</a>");
        inserts("<a>t</a>", "n", 2, 3, 2, "<a>tn</a>");
        inserts("<a x=\"1\">t</a>", "n", 1, 0, 3, "<a x=\"1\">nt</a>");
        inserts("<a>t<b/>u</a>", "n", 3, 2, 2, "<a>tn<b/>u</a>");
        inserts("<a>t<b/>u</a>", "n", 3, 3, 4, "<a>t<b/>nu</a>");
        inserts("<a>t<b>v</b>u</a>", "n", 1, 1, 5, "<a>t<b>v</b>un</a>");
        inserts("<a>t<!--c-->u</a>", "n", 4, 2, 4, "<a>t<!--c-->nu</a>");
        inserts("<a>t</a>", "&lt;", 2, 3, 2, "<a>t&lt;</a>");
        Run run = Run.of("<a/>");
        for (int i = 0; i < 40; i++) {
            Run.due("insert again", run.insert("n", 1, i % 2), 2);
        }
        Run.due("nodes", run.store.nodes(), 3);
        Run.due("value", run.value(2), "n".repeat(40));
    }

    private static void insertNotSideBySide() {
        inserts("<a>t<b/></a>", "n", 3, 0, 4, "<a>t<b>n</b></a>");
        inserts("<a><b>t</b></a>", "n", 2, 3, 4, "<a><b>t</b>n</a>");
        inserts("<a><b>t</b></a>", "n", 2, 2, 2, "<a>n<b>t</b></a>");
        inserts("<a><b>t</b><c/></a>", "n", 4, 0, 5, "<a><b>t</b><c>n</c></a>");
        inserts("<a>t</a>", "<!--n-->", 2, 3, 3, "<a>t<!--n--></a>");
        inserts("<a>t<b/>u</a>", "<n>v</n>", 3, 2, 3, "<a>t<n>v</n><b/>u</a>");
        inserts("<a>t</a>", "<n>v</n>", 2, 2, 2, "<a><n>v</n>t</a>");
    }

    private static void insertNoNode() {
        Run.says("IndexOutOfBoundsException when there is no node p");
        for (int p : NO_NODES) {
            for (int where = 0; where < 4; where++) {
                insertFails("<a><b/><c/><d/><e/><f/><g/></a>", "n", p, where, INDEX);
            }
        }
        for (int p : new int[] { -1, 30, 31, 32, 33 }) {
            insertFails(FULL, "n", p, 2, INDEX);
        }
        for (int where = 0; where < 4; where++) {
            Run.due("insert(0) of a new store", new Run().insert("n", 0, where), INDEX);
            Run.due("insert(1) of a new store", new Run().insert("n", 1, where), INDEX);
        }
    }

    private static void insertNoWhere() {
        Run.says("where is not 0 .. 3");
        for (int where : new int[] { -1, 4, 5, -4, 256, Integer.MIN_VALUE, Integer.MAX_VALUE }) {
            insertFails("<a><b/></a>", "n", 2, where, INDEX);
            insertFails("<a><b/></a>", "n", 1, where, INDEX);
        }
    }

    private static void insertNotAsSaid() {
        Run.says("or p is not as said");
        // 0 the document, 1 comment, 2 a, 3 x, 4 text, 5 b, 6 comment, 7 comment outside.
        String document = "<!--o--><a x='1'>t<b/><!--c--></a><!--p-->";
        String[] places = { "....", "....", "01..", "....", "..23", "0123", "..23", "...." };
        for (int p = 0; p < places.length; p++) {
            for (int where = 0; where < 4; where++) {
                if (places[p].charAt(where) == '.') {
                    insertFails(document, "<n/>", p, where, INDEX);
                } else {
                    Run.due("insert at " + p + ", " + where, Run.of(document).insert("<n/>", p, where).startsWith("throws"), false);
                }
            }
        }
    }

    private static void insertIndexComesFirst() {
        Run.says("then what load throws, for what is wrong in the buffer");
        for (String text : new String[] { "", "<", "<?", "t<", "<i" }) {
            insertFails(DEEP, text, 9, 0, INDEX);
            insertFails(DEEP, text, 8, 4, INDEX);
            insertFails(DEEP, text, 1, 2, INDEX);
            insertFails(FULL, text, 2, 0, INDEX);
        }
    }

    private static void insertThrowsWhatLoadThrows() {
        for (String text : new String[] {
            "<", "<b", "<b/", "<b>", "<b></", "<b></b", "<b></c>", "<b x>", "<b x='1' x='2'/>", "<b x='<'/>", "<1/>", "< b/>", "&", "t&",
            "&x;", "t<",
            "<!", "<!-", "<!--", "<!--c", "<!--c--", "<!--c--d-->", "<!--c--->", "<!x" }) {
            insertFails("<a>t</a>", text, 2, 3, BAD);
        }
        for (String text : new String[] { "<?", "<!D", "<![", "<b><?", "<b>t<!D", "<b><c/><![" }) {
            insertFails("<a>t</a>", text, 2, 3, OTHER);
        }
        // Behind what has come in nothing can begin, nor within a text.
        for (String text : new String[] { "t<?", "t<!D", "<b/><?", "<b></b><![", "<!--c--><?", " <?" }) {
            insertFails("<a>t</a>", text, 2, 3, BAD);
        }
    }

    private static void insertDepth() {
        Run.says("depth and room counted with what is there");
        for (int where = 0; where < 2; where++) {
            insertFails(DEEP, "<i/>", 8, where, STATE);
            insertFails(DEEP, "<i", 8, where, STATE);
            insertFails(DEEP, "<", 8, where, BAD);
            insertFails(DEEP, "<i><j/></i>", 7, where, STATE);
            insertFails(DEEP, "<i></i>t", 7, where, BAD);
            Run.due("a comment in the deepest", Run.of(DEEP).insert("<!--i-->", 8, where), 9);
            Run.due("a text in the deepest", Run.of(DEEP).insert("i", 8, where), 9);
        }
        inserts(DEEP, "<i/>", 8, 2, 8, DEEP.replace("<h/>", "<i/><h/>"));
        inserts(DEEP, "<i x=\"1\">t</i>", 8, 3, 9, DEEP.replace("<h/>", "<h/><i x=\"1\">t</i>"));
        insertFails(DEEP, "<i><j/></i>", 8, 2, STATE);
        insertFails(DEEP, "<i>t<j/></i>", 8, 3, STATE);
        inserts("<a/>", "<b><c><d><e><f><g><h/></g></f></e></d></c></b>", 1, 0, 2, DEEP);
        insertFails("<a/>", "<b><c><d><e><f><g><h><i/></h></g></f></e></d></c></b>", 1, 0, STATE);
        insertFails("<a><b/></a>", "<b><c><d><e><f><g><h><i/></h></g></f></e></d></c></b>", 2, 3, STATE);
        inserts("<a><b/></a>", "<b><c><d><e><f><g><h/></g></f></e></d></c></b>", 2, 3, 3, DEEP.replace("<a>", "<a><b/>"));
    }

    private static void insertRoom() {
        Run.due("the thirtieth", Run.of(NEARLY_FULL).insert("<c/>", 1, 0), 2);
        Run.due("the thirtieth", Run.of(NEARLY_FULL).insert("<!--c-->", 1, 1), 29);
        Run.due("the thirtieth", Run.of(NEARLY_FULL).insert("t", 3, 0), 4);
        insertFails(NEARLY_FULL, "<c x=''/>", 1, 0, STATE);
        insertFails(NEARLY_FULL, "<c>t</c>", 1, 0, STATE);
        insertFails(NEARLY_FULL, "<c><d/></c>", 1, 0, STATE);
        insertFails(NEARLY_FULL, "<c><!----></c>", 1, 0, STATE);
        insertFails(FULL, "<c/>", 1, 0, STATE);
        insertFails(FULL, "<!--c-->", 3, 0, STATE);
        insertFails(FULL, "t", 3, 1, STATE);
        Run run = Run.of("<a>" + "<b/>".repeat(20) + "</a>");
        Run.due("eight more", run.insert("<c>" + "<d/>".repeat(7) + "</c>", 1, 1), 22);
        Run.due("nodes", run.store.nodes(), 30);
        run = Run.of("<a>" + "<b/>".repeat(20) + "</a>");
        Run.due("nine more", run.insert("<c>" + "<d/>".repeat(8) + "</c>", 1, 1), STATE);
        Run.due("nodes", run.store.nodes(), 22);
        Run full = Run.of(FULL);
        full.delete(29);
        Run.due("room that was made by delete", full.insert("<c/>", 1, 1), 29);
    }

    private static void insertRoomForText() {
        Run.says("a text needs room also when it becomes part of another");
        for (int where = 2; where < 4; where++) {
            insertFails(FULL, "t", 2, where, STATE);
            insertFails(FULL, "t", 3, where, STATE);
        }
        insertFails(FULL, "t", 1, 0, STATE);
        Run run = Run.of(NEARLY_FULL);
        Run.due("with room", run.insert("t", 2, 3), 2);
        Run.due("nodes", run.store.nodes(), 29);
        Run.due("with room again", run.insert("u", 2, 3), 2);
        Run.due("value", run.value(2), "xtu");
    }

    private static void insertFirstThing() {
        insertFails(FULL, "", 3, 0, BAD);
        insertFails(FULL, "<", 3, 0, BAD);
        insertFails(FULL, "<$", 3, 0, BAD);
        insertFails(FULL, "<?", 3, 0, OTHER);
        insertFails(FULL, "<!D", 3, 0, OTHER);
        insertFails(FULL, "<c$", 3, 0, STATE);
        insertFails(FULL, "<!--", 3, 0, BAD);
        insertFails(FULL, "<!--c--x", 3, 0, BAD);
        insertFails(FULL, "<!--c-->x", 3, 0, STATE);
        insertFails(FULL, "t<?", 3, 0, STATE);
        insertFails(FULL, " <b/>", 3, 0, STATE);
        insertFails(FULL, "&x", 3, 0, STATE);
        insertFails(NEARLY_FULL, "<c x='", 3, 0, BAD);
        insertFails(NEARLY_FULL, "<c x=''", 3, 0, STATE);
        insertFails(NEARLY_FULL, "<c>t<?", 3, 0, STATE);
        insertFails(NEARLY_FULL, "<c><?", 3, 0, OTHER);
        insertFails(NEARLY_FULL, "<c/>x", 3, 0, BAD);
    }

    private static void deletes(String document, int p, int answer, String printed) {
        Run run = Run.of(document);
        Run.due("delete " + p + " of " + document, run.delete(p), answer);
        Run.due("all after delete " + p + " of " + document, run.print() + run.all(), printed + Run.of(printed).all());
    }

    private static void deleteAllBelow() {
        Run.says("Node p goes, with all below it");
        deletes("<a><b x=\"1\">t<c><d/></c><!--e--></b><f/></a>", 2, 6, "<a><f/></a>");
        deletes("<a><b/></a>", 2, 1, "<a/>");
        deletes("<a x=\"1\"><b/></a>", 3, 1, "<a x=\"1\"/>");
        deletes("<a x=\"1\" y=\"2\"/>", 2, 1, "<a y=\"2\"/>");
        deletes("<a x=\"1\" y=\"2\"/>", 3, 1, "<a x=\"1\"/>");
        deletes("<a>t</a>", 2, 1, "<a/>");
        deletes("<!--o--><a/>", 1, 1, "<a/>");
        deletes("<a/><!--p--><!--q-->", 2, 1, "<a/><!--q-->");
        Run run = Run.of("<a>" + "<b/>".repeat(28) + "</a>");
        Run.due("delete the last of 30", run.delete(29), 1);
        Run.due("delete it again", run.delete(29), INDEX);
        Run.due("nodes", run.store.nodes(), 29);
        Run most = Run.of("<a><b>" + "<c/>x".repeat(13) + "<c/></b></a>");
        Run.due("delete 28 at once", most.delete(2), 28);
        Run.due("all", most.all(), "0,0,1,,;1,1,0,a,;");
    }

    private static void deleteSideBySide() {
        Run.says("two texts that come to lie side by side become one");
        deletes("<a>t<b/>u</a>", 3, 2, "<a>tu</a>");
        deletes("<a>t<!--c-->u</a>", 3, 2, "<a>tu</a>");
        deletes("<a>t<b x=\"1\"><c>v</c></b>u</a>", 3, 5, "<a>tu</a>");
        deletes("<a>t<b/>u<b/>v</a>", 3, 2, "<a>tu<b/>v</a>");
        deletes("<a>t<b/>u<b/>v</a>", 5, 2, "<a>t<b/>uv</a>");
        deletes("<a>t<b/><c/>u</a>", 3, 1, "<a>t<c/>u</a>");
        deletes("<a>t<b/></a>", 3, 1, "<a>t</a>");
        deletes("<a><b/>u</a>", 2, 1, "<a>u</a>");
        deletes("<a><b>t</b><c/>u</a>", 4, 1, "<a><b>t</b>u</a>");
        deletes("<a>t<b><c/>u</b></a>", 4, 1, "<a>t<b>u</b></a>");
        deletes("<a>t<b/>u</a>", 2, 1, "<a><b/>u</a>");
    }

    private static void deleteAnswers() {
        Run.says("Answers how many nodes there are less.");
        Run run = Run.of("<a>t<b><c/><d/></b>u<e/>v</a>");
        int before = run.store.nodes();
        Run.due("delete b", run.delete(3), 4);
        Run.due("nodes", run.store.nodes(), before - 4);
        Run.due("delete e", run.delete(3), 2);
        Run.due("nodes", run.store.nodes(), before - 6);
        Run.due("delete the text", run.delete(2), 1);
        Run.due("nodes", run.store.nodes(), 2);
    }

    private static void deleteNoNode() {
        Run.says("IndexOutOfBoundsException when there is no node p");
        for (int p : NO_NODES) {
            Run run = Run.of("<a><b/><c/><d/><e/><f/><g/></a>");
            Run.due("delete " + p, run.delete(p), INDEX);
            Run.due("nodes", run.store.nodes(), 8);
        }
        for (int p : new int[] { 30, 31, 32 }) {
            Run.due("delete " + p + " of 30", Run.of(FULL).delete(p), INDEX);
        }
        Run.due("delete(1) of a new store", new Run().delete(1), INDEX);
    }

    private static void deleteWhatStays() {
        Run.says("IllegalStateException when it is the document or its element.");
        Run run = Run.of("<!--o--><a><b/></a><!--p-->");
        Run.due("the document", run.delete(0), STATE);
        Run.due("its element", run.delete(2), STATE);
        Run.due("an element in it", run.delete(3), 1);
        Run.due("a comment behind it", run.delete(3), 1);
        Run.due("a comment before it", run.delete(1), 1);
        Run.due("its element, now 1", run.delete(1), STATE);
        Run.due("print", run.print(), "<a/>");
        Run.due("the document of a new store", new Run().delete(0), STATE);
    }

    private static void renameAnswers() {
        Run.says("Element or attribute p gets the name in the buffer; answers its length.");
        Run run = Run.of("<a x='1'><b/>t</a>");
        Run.due("the shortest", run.rename("z", 1), 1);
        Run.due("the longest", run.rename("n".repeat(120), 3), 120);
        Run.due("an attribute", run.rename("Y-_9", 2), 4);
        Run.due("print", run.print(), "<z Y-_9=\"1\"><" + "n".repeat(120) + "/>t</z>");
        Run.due("shorter again", run.rename("b", 3), 1);
        Run.due("the longest for an attribute", run.rename("m".repeat(120), 2), 120);
        Run.due("print", run.print(), "<z " + "m".repeat(120) + "=\"1\"><b/>t</z>");
        Run.due("to the name it has", run.rename("z", 1), 1);
        Run.due("to its child's name", run.rename("b", 1), 1);
    }

    private static void renameNoNode() {
        Run.says("IndexOutOfBoundsException when there is no node p");
        for (int p : NO_NODES) {
            for (String name : new String[] { "n", "", "1" }) {
                Run.due("rename " + p, Run.of("<a><b/><c/><d/><e/><f/><g/></a>").rename(name, p), INDEX);
            }
        }
        Run.due("rename(30) of 30", Run.of(FULL).rename("n", 30), INDEX);
        Run.due("rename(1) of a new store", new Run().rename("n", 1), INDEX);
    }

    private static void renameOtherKinds() {
        Run.says("IllegalStateException when it is another kind, then IllegalArgumentException when the buffer is no NAME");
        for (String name : new String[] { "n", "", "1", "n n" }) {
            Run run = Run.of("<!--o--><a>t<!--c--></a>");
            for (int p : new int[] { 0, 1, 3, 4 }) {
                Run.due("rename " + p + " to " + name, run.rename(name, p), STATE);
            }
            Run.due("rename(0) of a new store", new Run().rename(name, 0), STATE);
        }
    }

    private static void renameNoName() {
        for (String name : new String[] {
            "", " ", "1", "-", "_", "1n", "-n", "_n", " n", "n ", "\nn", "n\n", "n.", "n:m", "n/", "<n", "n>", "n=", "n'", "@n", "*",
            "n".repeat(119) + "+" }) {
            Run run = Run.of("<a x='1'/>");
            Run.due("rename of an element to " + name, run.rename(name, 1), BAD);
            Run.due("rename of an attribute to " + name, run.rename(name, 2), BAD);
            Run.due("print", run.print(), "<a x=\"1\"/>");
        }
    }

    private static void renameTaken() {
        Run.says("or p is an attribute and another one of its element has this name.");
        Run run = Run.of("<a x='1' y='2' z='3'><b x='4'/><y/></a>");
        for (int p = 2; p <= 4; p++) {
            for (int other = 2; other <= 4; other++) {
                Run.due("rename " + p + " to the name of " + other, run.rename(run.name(other), p), p == other ? "1" : BAD);
            }
        }
        Run.due("another element's attribute", run.rename("y", 6), 1);
        Run.due("a name that another's begins with", run.rename("yy", 2), 2);
        Run.due("in other letters", run.rename("Y", 2), 1);
        Run.due("an element's name", run.rename("a", 2), 1);
        Run.due("a name that is free now", run.rename("x", 3), 1);
        Run.due("an element may take an attribute's name", run.rename("x", 1), 1);
        Run.due("an element may take the name of its parent's attribute", run.rename("z", 5), 1);
        Run.due("and its own name again", run.rename("b", 5), 1);
        Run.due("print", run.print(), "<x a=\"1\" x=\"2\" z=\"3\"><b y=\"4\"/><y/></x>");
        run.delete(4);
        Run.due("a name that delete has freed", run.rename("z", 2), 1);
    }
}
