/** Promises 1 to 3: a new object, type, wipe. */
public final class BufferTest {
    public static void main(String[] args) {
        newObject();
        typeOrder();
        typeRefusals();
        typeFull();
        wipe();
        bufferStaysOrEmpties();
        Run.end("BufferTest");
    }

    private static void newObject() {
        Run run = new Run();
        Run.due("nodes()", run.store.nodes(), 1);
        Run.due("all()", run.all(), "0,0,0,,;");
        Run.due("print()", run.print(), "");
        Run.due("result(0)", run.result(0), "throws.IndexOutOfBoundsException");
        Run.due("load()", run.load(), "throws.IllegalArgumentException");
        Run.due("bufferLength()", run.bufferLength(), 0);
        Run.due("query /", new Run().query("/", 0), " 0");
    }

    private static void typeOrder() {
        Run run = new Run();
        Run.due("type(<bc/>)", run.store.type(0x3c62632f3eL), true);
        Run.due("load()", run.load(), 2);
        Run.due("name(1)", run.name(1), "bc");
        // Zeros are left out wherever they stand.
        Run.due("type with zeros", run.store.type(0x3c00620000632f3eL), true);
        Run.due("load()", run.load(), 2);
        Run.due("name(1)", run.name(1), "bc");
        Run.due("type(0)", run.store.type(0), true);
        Run.due("bufferLength()", run.bufferLength(), 0);
    }

    private static void typeRefusals() {
        Run run = new Run();
        for (int c = 1; c < 256; c++) {
            boolean isCharacter = c == 10 || (c >= 32 && c <= 126);
            for (int shift = 0; shift < 64; shift += 8) {
                Run.due("type " + c + " at " + shift, run.store.type((long) c << shift), isCharacter);
                Run.due("length", run.bufferLength(), isCharacter ? 1 : 0);
                run.store.wipe();
            }
        }
        // Nothing of what is refused is appended.
        Run.due("type(-1)", run.store.type(-1), false);
        Run.due("type(a, 9)", run.store.type(0x6109L), false);
        Run.due("bufferLength()", run.bufferLength(), 0);
    }

    private static void typeFull() {
        Run run = new Run();
        for (int i = 0; i < 14; i++) {
            Run.due("type 8", run.store.type(Run.eight("abcdefgh")), true);
        }
        Run.due("type 5, at 117", run.store.type(Run.eight("abcde")), true);
        Run.due("type 4, over 120", run.store.type(Run.eight("abcd")), false);
        Run.due("type 3, at 120", run.store.type(Run.eight("abc")), true);
        Run.due("type 1, over 120", run.store.type('a'), false);
        Run.due("type 0 at 120", run.store.type(0), true);
        run.load("<a/>");
        Run.due("rename with 120", run.rename("n".repeat(120), 1), 120);
        Run.due("name(1, 119)", run.store.name(1, 119), (int) 'n');
        Run.due("name(1, 120)", run.store.name(1, 120), 0);
    }

    private static void wipe() {
        Run run = new Run();
        run.put("<a/>");
        run.store.wipe();
        Run.due("load()", run.load(), "throws.IllegalArgumentException");
        run.store.wipe();
        Run.due("bufferLength()", run.bufferLength(), 0);
        Run of = Run.of("<a>t</a>");
        of.query("a", 0);
        of.store.wipe();
        Run.due("result after wipe", of.result(0), 1);
        Run.due("nodes after wipe", of.store.nodes(), 3);
    }

    private static void bufferStaysOrEmpties() {
        Run run = Run.of("<a><b/></a>");
        Run.due("after load", run.bufferLength(), 0);
        run.load("<a>");
        Run.due("after a load that throws", run.bufferLength(), 3);
        run.insert("t", 1, 0);
        Run.due("after insert", run.bufferLength(), 0);
        run.insert("<c", 1, 0);
        Run.due("after an insert that throws", run.bufferLength(), 2);
        run.insert("t", 77, 0);
        Run.due("after an insert nowhere", run.bufferLength(), 1);
        run.rename("q", 1);
        Run.due("after rename", run.bufferLength(), 0);
        run.rename("1", 1);
        Run.due("after a rename that throws", run.bufferLength(), 1);
        run.query("//b", 0);
        Run.due("after query", run.bufferLength(), 0);
        run.query("//b[", 0);
        Run.due("after a query that throws", run.bufferLength(), 4);
        run.put("ab");
        run.delete(2);
        Run.due("after delete", run.bufferLength(), 2);
        run.put("ab");
        run.print();
        run.result(0);
        Run.due("after calls that read the tree", run.bufferLength(), 2);
    }
}
