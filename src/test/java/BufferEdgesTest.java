/** The edges of the 512 calls, of the buffer and of promises 1 to 3, a sentence at a time. */
public final class BufferEdgesTest {
    private static final String BAD = "throws.IllegalArgumentException";
    private static final String OTHER = "throws.UnsupportedOperationException";
    private static final String STATE = "throws.IllegalStateException";
    private static final String INDEX = "throws.IndexOutOfBoundsException";

    public static void main(String[] args) {
        fiveHundredAndTwelveCalls();
        atMost120();
        whichCharacters();
        readAllOfIt();
        emptyWhenTheyAnswer();
        staysWhenLoadThrows();
        staysWhenInsertThrows();
        staysWhenRenameThrows();
        staysWhenQueryThrows();
        throwingChangesNothing();
        newObject();
        newObjectBesideAnOldOne();
        typeAppends();
        typeZeros();
        typeRefusesBytes();
        typeRefusesTooMany();
        wipe();
        Run.end("BufferEdgesTest");
    }

    /** A store after 509 calls that brought in as many characters as they can. */
    private static Run after509Calls() {
        Run run = new Run();
        run.store.type(Run.eight("<a>x</a>"));
        run.store.load();
        int calls = 2;
        for (; calls + 16 <= 509; calls += 16) {
            for (int i = 0; i < 15; i++) {
                run.store.type(Run.eight("abcdefgh"));
            }
            run.store.insert(1, 1);
        }
        for (; calls < 509; calls++) {
            run.store.nodes();
        }
        return run;
    }

    private static void fiveHundredAndTwelveCalls() {
        Run.says("An object is used for at most 512 calls after it has been made");
        int typed = 31 * 120;
        for (int last = 0; last < 6; last++) {
            Run run = after509Calls();
            Run.due("call 510, nodes", run.store.nodes(), 3);
            Run.due("call 511, type", run.store.type(Run.eight(last == 4 ? "<b/>" : "b")), true);
            switch (last) {
                case 0: Run.due("call 512, insert", run.insert(2, 3), 2); break;
                case 1: Run.due("call 512, rename", run.rename(1), 1); break;
                case 2: Run.due("call 512, query", run.query(1), 0); break;
                case 3: Run.due("call 512, delete", run.delete(2), 1); break;
                case 4: Run.due("call 512, load", run.load(), 2); break;
                default: Run.due("call 512, value", run.store.value(2, typed), (int) 'h'); break;
            }
        }
        Run.due("call 510, value", after509Calls().store.value(2, typed + 1), 0);
        Run.due("call 510, print", after509Calls().store.print(3 + typed + 1 + 3), (int) '>');
        Run.due("call 510, print", after509Calls().store.print(3 + typed + 1 + 4), 0);
    }

    private static void atMost120() {
        Run.says("THE BUFFER holds at most 120 characters");
        Run run = new Run();
        for (int i = 1; i <= 120; i++) {
            Run.due("type, the character " + i, run.store.type('n'), true);
        }
        Run.due("type, the character 121", run.store.type('n'), false);
        run.store.wipe();
        run.put("<a/>");
        run.load();
        for (int i = 0; i < 15; i++) {
            Run.due("type eight", run.store.type(Run.eight("nnnnnnnn")), true);
        }
        Run.due("type one more", run.store.type('n'), false);
        Run.due("rename", run.rename(1), 120);
    }

    private static void whichCharacters() {
        Run.says("10 (LF) and 32 .. 126");
        for (int c : new int[] { 10, 32, 33, 47, 48, 64, 65, 96, 97, 125, 126 }) {
            Run.due("type " + c, new Run().store.type(c), true);
            Run run = Run.of("<a/>");
            String typed = c == '<' ? "&lt;" : c == '&' ? "&amp;" : String.valueOf((char) c);
            Run.due("insert " + c, run.insert(typed, 1, 0), 2);
            Run.due("value of " + c, run.store.value(2, 0), c);
        }
        for (int c : new int[] { 1, 8, 9, 11, 12, 13, 31, 127, 128, 129, 160, 254, 255 }) {
            Run run = new Run();
            Run.due("type " + c, run.store.type(c), false);
            Run.due("length", run.bufferLength(), 0);
        }
    }

    private static void readAllOfIt() {
        Run.says("load, insert, rename and query read all of it");
        String text = "<a>" + "t".repeat(113) + "</a>";
        Run.due("load of 120", new Run().load(text), 3);
        Run.due("load of 120, the last one wrong", new Run().load(text.substring(0, 119) + "x"), BAD);
        Run.due("load of 119 and one more", new Run().load(text.replace("tt</a>", "</a>") + " x"), BAD);
        Run run = Run.of("<a/>");
        Run.due("insert of 120", run.insert("t".repeat(120), 1, 0), 2);
        Run.due("value 119", run.store.value(2, 119), (int) 't');
        Run.due("insert of 120, the last one wrong", run.insert("t".repeat(119) + "&", 1, 0), BAD);
        Run.due("insert of an element and one more", run.insert("<b/>x", 1, 0), BAD);
        Run.due("rename of 120", run.rename("n".repeat(120), 1), 120);
        Run.due("rename of 120, the last one wrong", run.rename("n".repeat(119) + ".", 1), BAD);
        Run.due("rename of a name and one more", run.rename("n ", 1), BAD);
        Run.due("query of 120", run.query("./".repeat(59) + "..", 1), " 0");
        Run.due("query of 120, the last one wrong", run.query("./".repeat(60), 1), BAD);
        Run.due("query of a path and one more", run.query("*]", 1), BAD);
    }

    private static void emptyWhenTheyAnswer() {
        Run.says("and empty it when they answer");
        Run run = new Run();
        run.load("<a>t</a>");
        Run.due("after load", run.bufferLength(), 0);
        run.insert("<b/>", 1, 0);
        Run.due("after insert", run.bufferLength(), 0);
        run.insert("u", 3, 3);
        Run.due("after insert of a text that joins", run.bufferLength(), 0);
        run.rename("a", 1);
        Run.due("after rename to the name it had", run.bufferLength(), 0);
        run.query("none", 0);
        Run.due("after query that gives nothing", run.bufferLength(), 0);
        run.query("//node()", 0);
        Run.due("after query", run.bufferLength(), 0);
    }

    private static void staysWhenLoadThrows() {
        Run.says("when they throw it stays as it is");
        Run run = new Run();
        Run.due("load", run.load("<a>"), BAD);
        Run.due("load again", run.load(), BAD);
        run.store.type(Run.eight("</a>"));
        Run.due("load of the rest too", run.load(), 2);
        Run.due("load", run.load("<a><![CDATA["), OTHER);
        Run.due("load again", run.load(), OTHER);
        Run.due("its length", run.bufferLength(), 12);
        String over = "<a>" + "x<b/>".repeat(14) + "x</a>";
        Run.due("load", run.load(over), STATE);
        Run.due("load again", run.load(), STATE);
        Run.due("its length", run.bufferLength(), over.length());
    }

    private static void staysWhenInsertThrows() {
        Run run = Run.of("<a>" + "x<b/>".repeat(14) + "</a>");
        Run.due("insert nowhere", run.insert("t", 30, 0), INDEX);
        Run.due("insert without room", run.insert(1, 0), STATE);
        run.delete(29);
        Run.due("insert with room", run.insert(1, 0), 2);
        Run.due("its value", run.value(2), "tx");
        Run.due("insert of the wrong", run.insert("<c", 1, 4), INDEX);
        Run.due("insert of the wrong", run.insert(1, 0), BAD);
        run.store.type(Run.eight("/>"));
        Run.due("insert of the rest too", run.insert(1, 0), 2);
        Run.due("insert", run.insert("<?", 1, 0), OTHER);
        Run.due("its length", run.bufferLength(), 2);
    }

    private static void staysWhenRenameThrows() {
        Run run = Run.of("<a x='1' y='2'/>");
        Run.due("rename nowhere", run.rename("y", 4), INDEX);
        Run.due("rename of the document", run.rename(0), STATE);
        Run.due("rename to another's name", run.rename(2), BAD);
        run.store.type('z');
        Run.due("rename", run.rename(2), 2);
        Run.due("name", run.name(2), "yz");
    }

    private static void staysWhenQueryThrows() {
        Run run = Run.of("<a><b/></a>");
        Run.due("query from nowhere", run.query("a[", 3), INDEX);
        Run.due("query of the wrong", run.query(0), BAD);
        run.store.type(Run.eight("b]"));
        Run.due("query of the rest too", run.query(0), 1);
    }

    private static void throwingChangesNothing() {
        Run.says("A call that throws changes nothing");
        String document = "<!--o--><a x='1' y='2'>t<b>u</b>v</a>";
        Object[][] calls = {
            { "load", "<c>", 0, 0, BAD }, { "load", "<c/>x", 0, 0, BAD }, { "load", "", 0, 0, BAD }, { "load", "<c/><?", 0, 0, OTHER },
            { "load", "<a><b><c><d><e><f><g><h><i/>", 0, 0, STATE }, { "load", "<a>" + "x<b/>".repeat(15), 0, 0, STATE },
            { "insert", "w", 9, 0, INDEX }, { "insert", "w", 2, 4, INDEX }, { "insert", "w", 1, 2, INDEX }, { "insert", "", 6, 2, BAD },
            { "insert", "w&", 5, 3, BAD }, { "insert", "<c><d/>", 6, 0, BAD }, { "insert", "<c><?", 6, 0, OTHER },
            { "insert", "<c>" + "x<d/>".repeat(11), 6, 0, STATE }, { "insert", "<a>".repeat(7), 6, 0, STATE },
            { "delete", "", 9, 0, INDEX }, { "delete", "", -1, 0, INDEX }, { "delete", "", 0, 0, STATE }, { "delete", "", 2, 0, STATE },
            { "rename", "n", 9, 0, INDEX }, { "rename", "n", 5, 0, STATE }, { "rename", "n.", 6, 0, BAD }, { "rename", "y", 3, 0, BAD },
            { "query", "a", 9, 0, INDEX }, { "query", "a[", 0, 0, BAD }, { "query", "", 0, 0, BAD }, { "query", "//b[7]/", 0, 0, BAD },
            { "result", "", 2, 0, INDEX }, { "result", "", -1, 0, INDEX } };
        for (Object[] call : calls) {
            Run run = Run.of(document);
            run.query("//text()[position()!=2]", 0);
            String before = run.state();
            String text = (String) call[1];
            String name = call[0] + " " + text + " " + call[2] + " " + call[3];
            Run.due(name, call(run, (String) call[0], text, (Integer) call[2], (Integer) call[3]), call[4]);
            Run.due("what is seen after " + name, run.state(), before);
            Run.due("the buffer after " + name, run.bufferLength(), text.length());
        }
    }

    private static String call(Run run, String name, String text, int p, int where) {
        run.put(text);
        switch (name) {
            case "load": return run.load();
            case "insert": return run.insert(p, where);
            case "delete": return run.delete(p);
            case "rename": return run.rename(p);
            case "query": return run.query(p);
            default: return run.result(p);
        }
    }

    private static void newObject() {
        Run.says("The buffer is empty, the store has the document alone (one node).");
        Run.due("length", new Run().bufferLength(), 0);
        Run run = new Run();
        Run.due("nodes", run.store.nodes(), 1);
        Run.due("kind(0)", run.store.kind(0), 0);
        Run.due("size(0)", run.store.size(0), 0);
        Run.due("level(0)", run.store.level(0), 0);
        Run.due("name(0, 0)", run.store.name(0, 0), 0);
        Run.due("value(0, 0)", run.store.value(0, 0), 0);
        Run.due("print(0)", run.store.print(0), 0);
        Run.due("kind(1)", run.store.kind(1), -1);
        Run.due("load", run.load(), BAD);
        Run.due("insert(0, 0)", run.insert(0, 0), INDEX);
        Run.due("delete(0)", run.delete(0), STATE);
        Run.due("delete(1)", run.delete(1), INDEX);
        Run.due("rename(0)", run.rename(0), STATE);
        Run.due("query(0)", run.query(0), BAD);
        Run.due("result(0)", run.result(0), INDEX);
        Run.due("query", run.query("//node()", 0), "");
        Run.due("query", run.query("//.", 0), " 0");
    }

    private static void newObjectBesideAnOldOne() {
        Run old = Run.of("<a>t</a>");
        old.query("a", 0);
        old.put("<b/>");
        Run run = new Run();
        Run.due("a new object beside an old one", run.state() + run.load(), "1:0,0,0,,;" + BAD);
        Run.due("the old one", old.state() + old.load(), "3:0,0,2,,t;1,1,1,a,t;3,2,0,,t;<a>t</a> 12");
    }

    private static void typeAppends() {
        Run.says("Appends the characters that are the bytes of eight, from the highest to the lowest, zeros left out: true.");
        Run run = Run.of("<a/>");
        Run.due("type", run.store.type(0x6162636465666768L), true);
        Run.due("type", run.store.type(0x696aL), true);
        Run.due("insert", run.insert(1, 0), 2);
        Run.due("value", run.value(2), "abcdefghij");
    }

    private static void typeZeros() {
        for (int zero = 0; zero < 8; zero++) {
            Run run = Run.of("<a/>");
            long mask = ~(255L << 8 * zero);
            Run.due("type", run.store.type(0x6162636465666768L & mask), true);
            Run.due("insert", run.insert(1, 0), 2);
            Run.due("value", run.value(2), new StringBuilder("abcdefgh").deleteCharAt(7 - zero));
        }
        Run run = new Run();
        Run.due("type(0)", run.store.type(0), true);
        Run.due("length after it", run.bufferLength(), 0);
        Run.due("type(0) when it is full", run.store.type(0), true);
    }

    private static void typeRefusesBytes() {
        Run.says("Refused (false) when a byte is neither 0 nor a character");
        for (int place = 0; place < 8; place++) {
            for (int c : new int[] { 1, 9, 11, 31, 127, 128, 255 }) {
                Run run = new Run();
                long eight = 0x6162636465666768L & ~(255L << 8 * place) | (long) c << 8 * place;
                Run.due("type with " + c + " at " + place, run.store.type(eight), false);
                Run.due("type of " + c + " at " + place, run.store.type((long) c << 8 * place), false);
                Run.due("length after it", run.bufferLength(), 0);
            }
        }
        Run.due("type(-1)", new Run().store.type(-1), false);
        Run.due("type(least)", new Run().store.type(Long.MIN_VALUE), false);
        Run.due("type(most)", new Run().store.type(Long.MAX_VALUE), false);
    }

    private static void typeRefusesTooMany() {
        Run.says("or there would be more than 120.");
        for (int there = 110; there <= 120; there++) {
            for (int more = 1; more <= 8; more++) {
                Run run = new Run();
                run.put("n".repeat(there));
                boolean fits = there + more <= 120;
                Run.due("type " + more + " behind " + there, run.store.type(Run.eight("n".repeat(more))), fits);
                Run.due("length after it", run.bufferLength(), fits ? there + more : there);
            }
        }
        Run run = new Run();
        run.put("n".repeat(119));
        Run.due("one character among zeros behind 119", run.store.type(0x6e000000000000L), true);
        Run.due("length after it", run.bufferLength(), 120);
    }

    private static void wipe() {
        Run.says("Empties the buffer.");
        Run run = Run.of("<a>t</a>");
        run.query("//node()", 0);
        String before = run.state();
        run.store.wipe();
        Run.due("length after wipe of an empty one", run.bufferLength(), 0);
        run.store.wipe();
        Run.due("length after wipe of a full one", run.bufferLength(), 0);
        Run.due("what is seen", run.state(), before);
    }
}
