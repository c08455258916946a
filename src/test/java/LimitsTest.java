/** The edges of the program itself: long runs, hostile arguments, the dearest queries. */
public final class LimitsTest {
    public static void main(String[] args) {
        nestedPaths();
        mostSteps();
        mostParts();
        fullOfCharacters();
        beyondTheLastCall();
        madeInARun();
        Run.end("LimitsTest");
    }

    /** Looked at again for every node, these would go on for hours. */
    private static void nestedPaths() {
        Run run = Run.of("<a>" + "x<b/>".repeat(14) + "</a>");
        String axis = "//*/following::node()";
        String path = axis + "[" + axis + "[" + axis + "[" + axis + "[.!=.]]]]";
        Run.due(path, run.query(path, 0), "");
        String step = "//*/preceding::*";
        path = step + "[" + step + "[" + step + "[" + step + "[" + "//b=//b" + "]]]]";
        Run.due(path, run.query(path, 0), " 3 5 7 9 11 13 15 17 19 21 23 25 27");
    }

    private static void mostSteps() {
        Run run = Run.of("<a><b/></a>");
        Run.due("80 steps", run.query("//.".repeat(40), 0), " 0 1 2");
        Run.due("60 steps", run.query("./".repeat(59) + ".", 1), " 1");
        Run.due("sum of sets", run.query("a[" + ".+".repeat(57) + "1]", 0), "");
    }

    private static void mostParts() {
        Run run = Run.of("<a/>");
        Run.due("sum of ones", run.query("a[" + "1+".repeat(56) + "1=57]", 0), " 1");
        Run.due("many predicates", run.query("*" + "[1]".repeat(39), 0), " 1");
        Run.due("many exprs", run.query("*" + "[.=.]".repeat(23), 0), " 1");
        Run.due("sums and steps", run.query("*[" + "//.+".repeat(28) + "1!=1]", 0), " 1");
    }

    /** As many characters as 512 calls can bring into one text. */
    private static void fullOfCharacters() {
        TreeStore store = new TreeStore();
        store.type(Run.eight("<a/>"));
        store.load();
        for (int call = 3; call + 16 <= 510; call += 16) {
            for (int i = 0; i < 15; i++) {
                store.type(Run.eight(i == 0 ? "\"\"\"\"\"\"\"\"" : "abcdefgh"));
            }
            store.insert(1, 1);
        }
        Run.due("nodes", store.nodes(), 3);
        Run.due("last character", store.value(2, 31 * 120 - 1), (int) 'h');
        Run.due("end", store.value(2, 31 * 120), 0);
    }

    /** What later calls answer is free, but they end, and throw nothing but what the face names. */
    private static void beyondTheLastCall() {
        long seed = 7;
        String[] texts = {
            "<a x='1'>t</a>", "<b>u<c/></b>", "long text ".repeat(11), "//*[.=//@*]", "n".repeat(110), "<!--c-->", "v", "name",
            "<d y='" + "&quot;".repeat(18) + "'/>", "//node()[last()]/..", "<", "a[" };
        Run run = new Run();
        for (int call = 0; call < 60000; call++) {
            seed = seed * 6364136223846793005L + 1442695040888963407L;
            int pick = (int) (seed >>> 40);
            int p = (int) (seed >>> 34) % 34 - 2;
            String text = texts[pick % texts.length];
            String answer;
            switch ((pick >>> 8) % 8) {
                case 0: answer = pick % 64 == 0 ? run.load(text) : ""; break;
                case 1: answer = run.delete(p); break;
                case 2: answer = run.rename(text, p); break;
                case 3: answer = run.query(text, p); break;
                default: answer = run.insert(text, p, (pick >>> 12) % 5); break;
            }
            run.store.print(pick);
            run.store.value(p, pick % 5000);
            run.store.name(p, pick % 200);
            boolean known = !answer.startsWith("throws") || answer.matches(
                "throws.(IllegalArgument|IllegalState|IndexOutOfBounds|UnsupportedOperation)Exception");
            Run.due("call " + call, known ? "known" : answer, "known");
        }
    }

    /** Calls make nothing: all that a run needs is made with the object. */
    private static void madeInARun() {
        TreeStore store = new TreeStore();
        com.sun.management.ThreadMXBean threads =
            (com.sun.management.ThreadMXBean) java.lang.management.ManagementFactory.getThreadMXBean();
        long id = Thread.currentThread().getId();
        long[] made = new long[2];
        for (int turn = 0; turn < 2; turn++) {
            long before = threads.getThreadAllocatedBytes(id);
            for (int i = 0; i < 60; i++) {
                oneRound(store);
            }
            made[turn] = threads.getThreadAllocatedBytes(id) - before;
        }
        Run.due("bytes made by 420 calls, beside what measuring makes: " + made[1], made[1] < 2000, true);
    }

    private static void oneRound(TreeStore store) {
        store.type(0x3c613e743c2f613eL);
        store.load();
        store.type(0x2f2f2a5b2e3d2e5dL);
        store.query(0);
        store.type(0x3c622f3eL);
        store.insert(1, 1);
        store.delete(3);
    }
}
