/** A store with what a test needs round it: whole texts in, answers out as texts. */
final class Run {
    final TreeStore store = new TreeStore();

    private static int wrong = 0;
    private static String sentence = "";

    /** The sentence of the document that the answers behind this are due to. */
    static void says(String words) {
        sentence = " [" + words + "]";
    }

    static void due(String call, Object got, Object want) {
        if (!String.valueOf(want).equals(String.valueOf(got))) {
            wrong++;
            System.out.println(call + " answered " + got + ", due is " + want + sentence);
        }
    }

    static void end(String test) {
        System.out.println(test + ": " + (wrong == 0 ? "all answers are as due" : wrong + " answers are not as due"));
        if (wrong != 0) {
            System.exit(1);
        }
    }

    /** A store that has this document. */
    static Run of(String document) {
        Run run = new Run();
        due("load " + document, run.load(document).startsWith("throws"), false);
        return run;
    }

    /** Types the text in the place of what the buffer has. */
    boolean put(String text) {
        store.wipe();
        boolean all = true;
        for (int i = 0; i < text.length(); i += 8) {
            all &= store.type(eight(text.substring(i, Math.min(text.length(), i + 8))));
        }
        return all;
    }

    static long eight(String text) {
        long eight = 0;
        for (int i = 0; i < text.length(); i++) {
            eight = eight << 8 | text.charAt(i);
        }
        return eight;
    }

    String load(String text) {
        put(text);
        return load();
    }

    String load() {
        try {
            return String.valueOf(store.load());
        } catch (RuntimeException e) {
            return thrown(e);
        }
    }

    String insert(String text, int p, int where) {
        put(text);
        return insert(p, where);
    }

    String insert(int p, int where) {
        try {
            return String.valueOf(store.insert(p, where));
        } catch (RuntimeException e) {
            return thrown(e);
        }
    }

    String delete(int p) {
        try {
            return String.valueOf(store.delete(p));
        } catch (RuntimeException e) {
            return thrown(e);
        }
    }

    String rename(String text, int p) {
        put(text);
        return rename(p);
    }

    String rename(int p) {
        try {
            return String.valueOf(store.rename(p));
        } catch (RuntimeException e) {
            return thrown(e);
        }
    }

    /** The numbers of all nodes that the path gives, with a space before each. */
    String query(String path, int p) {
        put(path);
        try {
            int n = store.query(p);
            String all = results();
            due("count of " + path, n, all.isEmpty() ? 0 : all.trim().split(" ").length);
            return all;
        } catch (RuntimeException e) {
            return thrown(e);
        }
    }

    /** How many nodes the path in the buffer gives. */
    String query(int p) {
        try {
            return String.valueOf(store.query(p));
        } catch (RuntimeException e) {
            return thrown(e);
        }
    }

    String result(int k) {
        try {
            return String.valueOf(store.result(k));
        } catch (RuntimeException e) {
            return thrown(e);
        }
    }

    String results() {
        StringBuilder all = new StringBuilder();
        for (int k = 0; !result(k).startsWith("throws"); k++) {
            all.append(' ').append(result(k));
        }
        return all.toString();
    }

    private static String thrown(RuntimeException e) {
        return "throws." + e.getClass().getSimpleName();
    }

    String name(int p) {
        StringBuilder all = new StringBuilder();
        for (int k = 0; store.name(p, k) != 0; k++) {
            all.append((char) store.name(p, k));
        }
        return all.toString();
    }

    String value(int p) {
        StringBuilder all = new StringBuilder();
        for (int k = 0; store.value(p, k) != 0; k++) {
            all.append((char) store.value(p, k));
        }
        return all.toString();
    }

    String print() {
        StringBuilder all = new StringBuilder();
        for (int k = 0; store.print(k) != 0; k++) {
            all.append((char) store.print(k));
        }
        return all.toString();
    }

    /** The face does not tell it, so the buffer is filled to see how much was free. */
    int bufferLength() {
        int free = 0;
        while (store.type('x')) {
            free++;
        }
        return 120 - free;
    }

    /** All that the face tells, but for the buffer. */
    String state() {
        return store.nodes() + ":" + all() + print() + results();
    }

    /** Each node: kind, level, size, name, value. */
    String all() {
        StringBuilder all = new StringBuilder();
        for (int p = 0; p < store.nodes(); p++) {
            all.append(store.kind(p)).append(',').append(store.level(p)).append(',').append(store.size(p));
            all.append(',').append(name(p)).append(',').append(value(p)).append(";");
        }
        return all.toString();
    }
}
