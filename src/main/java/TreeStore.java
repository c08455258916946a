/** A store for one document of marked-up text; ../shared/DOC.md says what each call promises. */
public final class TreeStore {
    private static final int MOST_TYPED = 120;
    private static final int MOST_NODES = 30;
    private static final int MOST_DEEP = 8;
    private static final int MOST_NESTED = 4;

    // Each of an object's 512 calls types eight characters at most, and what is kept was typed once.
    private static final int MOST_KEPT = 4096;

    // A part takes a character of its own; two steps take three, as in //. again and again.
    private static final int MOST_PARTS = MOST_TYPED;
    private static final int MOST_STEPS = 80;

    private static final int DOCUMENT = 0;
    private static final int ELEMENT = 1;
    private static final int ATTRIBUTE = 2;
    private static final int TEXT = 3;
    private static final int COMMENT = 4;

    private static final int FIRST_CHILD = 0;
    private static final int LAST_CHILD = 1;
    private static final int RIGHT_BEFORE = 2;
    private static final int RIGHT_BEHIND = 3;

    private static final int TEST_NAME = 0;
    private static final int TEST_STAR = 1;
    private static final int TEST_TEXT = 2;
    private static final int TEST_COMMENT = 3;
    private static final int TEST_NODE = 4;

    // In this order, so that one comparison tells the parts that are numbers or booleans.
    private static final int NUMBER = 0;
    private static final int POSITION = 1;
    private static final int LAST = 2;
    private static final int COUNT = 3;
    private static final int SUM = 4;
    private static final int LITERAL = 5;
    private static final int PATH = 6;
    private static final int NOT = 7;
    private static final int EQUAL = 8;
    private static final int UNEQUAL = 9;
    private static final int LESS = 10;
    private static final int MORE = 11;

    private static final int NO_PART = -1;

    // Far above every sum that 120 characters can write down.
    private static final long NONE = 1L << 62;

    private final Row buffer;
    private final Tree tree;
    private final Tree draft;
    private final TextReader textReader;
    private final PathReader pathReader;
    private final PathWalker walker;
    private final Printer printer;
    private int found;

    public TreeStore() {
        buffer = new Row(MOST_TYPED);
        tree = new Tree(MOST_KEPT);
        draft = new Tree(MOST_TYPED);
        textReader = new TextReader(buffer, draft);
        pathReader = new PathReader(buffer);
        walker = new PathWalker(buffer, tree);
        printer = new Printer(tree);
        found = 0;
        tree.add(DOCUMENT, 0, 0, 0);
        tree.measure();
    }

    public boolean type(long eight) {
        int more = 0;
        for (int shift = 56; shift >= 0; shift -= 8) {
            int c = byteAt(eight, shift);
            if (c != 0 && !isCharacter(c)) {
                return false;
            }
            more += c != 0 ? 1 : 0;
        }
        if (!buffer.hasRoomFor(more)) {
            return false;
        }
        for (int shift = 56; shift >= 0; shift -= 8) {
            int c = byteAt(eight, shift);
            if (c != 0) {
                buffer.add(c);
            }
        }
        return true;
    }

    public void wipe() {
        buffer.clear();
    }

    public int load() throws IllegalArgumentException, UnsupportedOperationException, IllegalStateException {
        textReader.readDocument();
        tree.clear();
        tree.takeIn(0, draft);
        buffer.clear();
        found = 0;
        return tree.count;
    }

    public int insert(int p, int where) throws IndexOutOfBoundsException, IllegalArgumentException, UnsupportedOperationException, IllegalStateException {
        if (!isPlace(p, where)) {
            throw new IndexOutOfBoundsException("no such place");
        }
        boolean inside = where == FIRST_CHILD || where == LAST_CHILD;
        textReader.readPiece(tree.levels[p] + (inside ? 1 : 0), MOST_NODES - tree.count);
        if (!tree.hasRoomFor(draft)) {
            throw new IllegalStateException("more than 512 calls");
        }
        int at = numberAt(p, where);
        tree.takeIn(at, draft);
        buffer.clear();
        found = 0;
        tree.joinTexts(at);
        return tree.joinTexts(at - 1) ? at - 1 : at;
    }

    public int delete(int p) throws IndexOutOfBoundsException, IllegalStateException {
        if (!tree.has(p)) {
            throw new IndexOutOfBoundsException("no such node");
        }
        if (p == 0 || (tree.kinds[p] == ELEMENT && tree.parents[p] == 0)) {
            throw new IllegalStateException("the document and its element stay");
        }
        int before = tree.count;
        tree.takeOut(p, tree.sizes[p] + 1);
        tree.joinTexts(p - 1);
        found = 0;
        return before - tree.count;
    }

    public int rename(int p) throws IndexOutOfBoundsException, IllegalStateException, IllegalArgumentException {
        if (!tree.has(p)) {
            throw new IndexOutOfBoundsException("no such node");
        }
        if (tree.kinds[p] != ELEMENT && tree.kinds[p] != ATTRIBUTE) {
            throw new IllegalStateException("a node of this kind has no name");
        }
        int length = buffer.nameLength(0);
        if (length == 0 || length != buffer.length || isTakenByAnother(p)) {
            throw new IllegalArgumentException("no name, or one that is taken");
        }
        if (!tree.words.hasRoomFor(length)) {
            throw new IllegalStateException("more than 512 calls");
        }
        tree.giveName(p, buffer);
        buffer.clear();
        found = 0;
        return length;
    }

    public int query(int p) throws IndexOutOfBoundsException, IllegalArgumentException {
        if (!tree.has(p)) {
            throw new IndexOutOfBoundsException("no such node");
        }
        Part path = pathReader.readPath();
        found = walker.nodesOf(path, p);
        buffer.clear();
        return Integer.bitCount(found);
    }

    public int result(int k) throws IndexOutOfBoundsException {
        int left = k;
        for (int p = 0; p < MOST_NODES; p++) {
            if (holds(found, p)) {
                if (left == 0) {
                    return p;
                }
                left--;
            }
        }
        throw new IndexOutOfBoundsException("no such result");
    }

    public int nodes() {
        return tree.count;
    }

    public int kind(int p) {
        return tree.has(p) ? tree.kinds[p] : -1;
    }

    public int size(int p) {
        return tree.has(p) ? tree.sizes[p] : -1;
    }

    public int level(int p) {
        return tree.has(p) ? tree.levels[p] : -1;
    }

    public int name(int p, int k) {
        if (!tree.has(p) || k < 0 || k >= tree.nameLengths[p]) {
            return 0;
        }
        return tree.words.at(tree.wordFrom[p] + k);
    }

    public int value(int p, int k) {
        if (!tree.has(p) || k < 0 || k >= tree.valueTo(p) - tree.valueFrom(p)) {
            return 0;
        }
        return tree.valueRow(p).at(tree.valueFrom(p) + k);
    }

    public int print(int k) {
        return printer.printed(k);
    }

    private boolean isPlace(int p, int where) {
        if (!tree.has(p)) {
            return false;
        }
        if (where == FIRST_CHILD || where == LAST_CHILD) {
            return tree.kinds[p] == ELEMENT;
        }
        if (where == RIGHT_BEFORE || where == RIGHT_BEHIND) {
            return tree.kinds[p] != ATTRIBUTE && tree.levels[p] > 1;
        }
        return false;
    }

    private int numberAt(int p, int where) {
        if (where == RIGHT_BEFORE) {
            return p;
        }
        return where == FIRST_CHILD ? tree.behindAttributes(p) : p + tree.sizes[p] + 1;
    }

    private boolean isTakenByAnother(int p) {
        if (tree.kinds[p] != ATTRIBUTE) {
            return false;
        }
        int element = tree.parents[p];
        for (int i = element + 1; i < tree.behindAttributes(element); i++) {
            if (i != p && tree.isNamed(i, buffer, 0, buffer.length)) {
                return true;
            }
        }
        return false;
    }

    private static int byteAt(long eight, int shift) {
        return (int) (eight >>> shift) & 255;
    }

    private static boolean isCharacter(int c) {
        return c == '\n' || (c >= 32 && c <= 126);
    }

    private static boolean isLetter(int c) {
        return (c >= 'a' && c <= 'z') || (c >= 'A' && c <= 'Z');
    }

    private static boolean isDigit(int c) {
        return c >= '0' && c <= '9';
    }

    // A set of nodes is an int with a bit for each node: 30 of them fit.
    private static boolean holds(int set, int p) {
        return (set >>> p & 1) == 1;
    }

    /** A row of characters that can open and close in its middle. */
    private static final class Row {
        private final char[] chars;
        private int length;

        Row(int most) {
            chars = new char[most];
            length = 0;
        }

        void clear() {
            length = 0;
        }

        boolean hasRoomFor(int more) {
            return length + more <= chars.length;
        }

        /** 0, which is no character, beyond the ends, so that readers need not look for them. */
        int at(int k) {
            return k >= 0 && k < length ? chars[k] : 0;
        }

        void add(int c) {
            if (hasRoomFor(1)) {
                chars[length] = (char) c;
                length++;
            }
        }

        void put(int place, Row from, int first, int n) {
            if (n < 0 || !hasRoomFor(n) || place < 0 || place > length || first < 0 || first + n > from.length) {
                return;
            }
            System.arraycopy(chars, place, chars, place + n, length - place);
            System.arraycopy(from.chars, first, chars, place, n);
            length += n;
        }

        void cut(int place, int n) {
            if (n < 0 || place < 0 || place + n > length) {
                return;
            }
            System.arraycopy(chars, place + n, chars, place, length - place - n);
            length -= n;
        }

        boolean isSame(int first, int n, Row other, int otherFirst, int otherN) {
            if (n != otherN) {
                return false;
            }
            // Elements in one another often have the same stretch of texts, and it may be long.
            if (other == this && otherFirst == first) {
                return true;
            }
            if (first < 0 || first + n > length || otherFirst < 0 || otherFirst + n > other.length) {
                return false;
            }
            for (int i = 0; i < n; i++) {
                if (chars[first + i] != other.chars[otherFirst + i]) {
                    return false;
                }
            }
            return true;
        }

        boolean spells(int first, String word) {
            if (first < 0 || first + word.length() > length) {
                return false;
            }
            for (int i = 0; i < word.length(); i++) {
                if (chars[first + i] != word.charAt(i)) {
                    return false;
                }
            }
            return true;
        }

        boolean isWord(int first, int n, String word) {
            return n == word.length() && spells(first, word);
        }

        /** 0 when no name begins at first. */
        int nameLength(int first) {
            if (!isLetter(at(first))) {
                return 0;
            }
            for (int behind = first + 1; behind < length; behind++) {
                char c = chars[behind];
                if (!isLetter(c) && !isDigit(c) && c != '-' && c != '_') {
                    return behind - first;
                }
            }
            return length - first;
        }

        int behindBlanks(int first, int end) {
            if (first < 0 || end > length) {
                return first;
            }
            int behind = first;
            while (behind < end && (chars[behind] == ' ' || chars[behind] == '\n')) {
                behind++;
            }
            return behind;
        }

        long asNumber(int first, int end) {
            int i = behindBlanks(first, end);
            boolean minus = i < end && at(i) == '-';
            i += minus ? 1 : 0;
            long number = 0;
            int digits = 0;
            while (i < end && digits <= 9 && isDigit(at(i))) {
                number = number * 10 + (at(i) - '0');
                digits++;
                i++;
            }
            if (digits < 1 || digits > 9 || behindBlanks(i, end) < end) {
                return NONE;
            }
            return minus ? -number : number;
        }
    }

    /**
     * Nodes in document order. The characters of all texts stand in one row, in this order, so
     * that the string-value of an element is a stretch of it, and texts are joined where they are.
     */
    private static final class Tree {
        private final int[] kinds = new int[MOST_NODES];
        private final int[] levels = new int[MOST_NODES];
        private final int[] nameLengths = new int[MOST_NODES];
        private final int[] ownLengths = new int[MOST_NODES];
        private final int[] parents = new int[MOST_NODES];
        private final int[] sizes = new int[MOST_NODES];
        private final int[] textFrom = new int[MOST_NODES + 1];
        private final int[] wordFrom = new int[MOST_NODES + 1];
        private final Row texts;
        private final Row words;
        private int count;

        Tree(int mostCharacters) {
            texts = new Row(mostCharacters);
            words = new Row(mostCharacters);
            count = 0;
        }

        void clear() {
            texts.clear();
            words.clear();
            count = 0;
        }

        boolean has(int p) {
            return p >= 0 && p < count;
        }

        boolean hasRoomFor(Tree other) {
            return count + other.count <= MOST_NODES
                && texts.hasRoomFor(other.texts.length)
                && words.hasRoomFor(other.words.length);
        }

        /** Adds a node whose characters have been added to texts or words. */
        void add(int nodeKind, int nodeLevel, int nameLength, int ownLength) {
            if (count >= MOST_NODES) {
                return;
            }
            kinds[count] = nodeKind;
            levels[count] = nodeLevel;
            nameLengths[count] = nameLength;
            ownLengths[count] = ownLength;
            count++;
            textFrom[count] = texts.length;
            wordFrom[count] = words.length;
        }

        void takeIn(int at, Tree other) {
            if (at < 0 || at > count || !hasRoomFor(other)) {
                return;
            }
            texts.put(textFrom[at], other.texts, 0, other.texts.length);
            words.put(wordFrom[at], other.words, 0, other.words.length);
            copyNodes(this, at, at + other.count, count - at);
            copyNodes(other, 0, at, other.count);
            count += other.count;
            measure();
        }

        void takeOut(int p, int n) {
            if (p < 0 || n < 0 || p + n > count) {
                return;
            }
            texts.cut(textFrom[p], textFrom[p + n] - textFrom[p]);
            words.cut(wordFrom[p], wordFrom[p + n] - wordFrom[p]);
            copyNodes(this, p + n, p, count - p - n);
            count -= n;
            measure();
        }

        boolean joinTexts(int p) {
            int next = p + 1;
            if (p < 0 || next >= count || kinds[p] != TEXT || kinds[next] != TEXT || levels[p] != levels[next]) {
                return false;
            }
            ownLengths[p] += ownLengths[next];
            copyNodes(this, next + 1, next, count - next - 1);
            count--;
            measure();
            return true;
        }

        private void copyNodes(Tree from, int first, int to, int n) {
            System.arraycopy(from.kinds, first, kinds, to, n);
            System.arraycopy(from.levels, first, levels, to, n);
            System.arraycopy(from.nameLengths, first, nameLengths, to, n);
            System.arraycopy(from.ownLengths, first, ownLengths, to, n);
        }

        void giveName(int p, Row newName) {
            words.cut(wordFrom[p], nameLengths[p]);
            words.put(wordFrom[p], newName, 0, newName.length);
            nameLengths[p] = newName.length;
            measure();
        }

        /** Works out, after a change, what follows from the nodes' kinds, levels and lengths. */
        void measure() {
            textFrom[0] = 0;
            wordFrom[0] = 0;
            for (int p = 0; p < count; p++) {
                int inTexts = kinds[p] == TEXT ? ownLengths[p] : 0;
                textFrom[p + 1] = textFrom[p] + inTexts;
                wordFrom[p + 1] = wordFrom[p] + nameLengths[p] + ownLengths[p] - inTexts;
                parents[p] = parentOf(p);
                sizes[p] = countBelow(p);
            }
        }

        private int parentOf(int p) {
            for (int before = p - 1; before >= 0; before--) {
                if (levels[before] < levels[p]) {
                    return before;
                }
            }
            return -1;
        }

        private int countBelow(int p) {
            int behind = p + 1;
            while (behind < count && levels[behind] > levels[p]) {
                behind++;
            }
            return behind - p - 1;
        }

        int behindAttributes(int element) {
            int i = element + 1;
            while (i < count && kinds[i] == ATTRIBUTE) {
                i++;
            }
            return i;
        }

        boolean hasChildren(int element) {
            return behindAttributes(element) <= element + sizes[element];
        }

        boolean isNamed(int p, Row row, int first, int n) {
            return words.isSame(wordFrom[p], nameLengths[p], row, first, n);
        }

        private boolean hasValueInWords(int p) {
            return kinds[p] == ATTRIBUTE || kinds[p] == COMMENT;
        }

        Row valueRow(int p) {
            return hasValueInWords(p) ? words : texts;
        }

        int valueFrom(int p) {
            return hasValueInWords(p) ? wordFrom[p] + nameLengths[p] : textFrom[p];
        }

        int valueTo(int p) {
            return hasValueInWords(p) ? wordFrom[p + 1] : textFrom[p + sizes[p] + 1];
        }
    }

    /** Reads the buffer from left to right into the draft, and throws at the first thing that is wrong. */
    private static final class TextReader {
        private final Row buffer;
        private final Tree draft;
        private int at;
        private int room;

        TextReader(Row buffer, Tree draft) {
            this.buffer = buffer;
            this.draft = draft;
            at = 0;
            room = 0;
        }

        void readDocument() {
            begin(MOST_NODES);
            draft.add(DOCUMENT, 0, 0, 0);
            readOutside();
            readElement(1);
            readOutside();
            expectEnd();
        }

        void readPiece(int atLevel, int nodesLeft) {
            begin(nodesLeft);
            readPart(atLevel);
            expectEnd();
        }

        private void begin(int nodesLeft) {
            draft.clear();
            at = 0;
            room = nodesLeft;
        }

        private void readOutside() {
            for (int turn = 0; turn < MOST_TYPED; turn++) {
                at = buffer.behindBlanks(at, buffer.length);
                if (!commentComes()) {
                    return;
                }
                readComment(1);
            }
        }

        private void readPart(int atLevel) {
            if (buffer.at(at) != '<') {
                readText(atLevel);
            } else if (commentComes()) {
                readComment(atLevel);
            } else {
                readElement(atLevel);
            }
        }

        /** Asked wherever a comment or an element could begin, so the < of other kinds are refused here. */
        private boolean commentComes() {
            if (buffer.spells(at, "<?") || buffer.spells(at, "<!D") || buffer.spells(at, "<![")) {
                throw new UnsupportedOperationException("not of the kinds that are kept");
            }
            return buffer.spells(at, "<!");
        }

        private void readElement(int atLevel) {
            expect('<');
            int first = at;
            int n = readName();
            if (atLevel > MOST_DEEP) {
                throw new IllegalStateException("too deep");
            }
            needRoom();
            draft.words.put(draft.words.length, buffer, first, n);
            draft.add(ELEMENT, atLevel, n, 0);
            readAttributes(atLevel + 1);
            if (buffer.at(at) == '/') {
                at++;
                expect('>');
                return;
            }
            expect('>');
            for (int turn = 0; turn < MOST_TYPED && at < buffer.length && !buffer.spells(at, "</"); turn++) {
                readPart(atLevel + 1);
            }
            readEndTag(first, n);
        }

        private void readEndTag(int first, int n) {
            expect('<');
            expect('/');
            int again = at;
            int againN = readName();
            if (!buffer.isSame(first, n, buffer, again, againN)) {
                throw new IllegalArgumentException("the end of another element");
            }
            at = buffer.behindBlanks(at, buffer.length);
            expect('>');
        }

        private void readAttributes(int atLevel) {
            int firstAttribute = draft.count;
            for (int turn = 0; turn < MOST_TYPED; turn++) {
                int behind = buffer.behindBlanks(at, buffer.length);
                boolean comes = behind > at && isLetter(buffer.at(behind));
                at = behind;
                if (!comes) {
                    return;
                }
                readAttribute(atLevel, firstAttribute);
            }
        }

        private void readAttribute(int atLevel, int firstAttribute) {
            int first = at;
            int n = readName();
            if (isDrafted(firstAttribute, first, n)) {
                throw new IllegalArgumentException("two attributes of one name");
            }
            expect('=');
            int quote = buffer.at(at);
            if (quote != '"' && quote != '\'') {
                throw new IllegalArgumentException("no quote");
            }
            at++;
            draft.words.put(draft.words.length, buffer, first, n);
            int length = 0;
            while (length < MOST_TYPED && buffer.at(at) != quote) {
                draft.words.add(readCharacter());
                length++;
            }
            needRoom();
            expect(quote);
            draft.add(ATTRIBUTE, atLevel, n, length);
        }

        private boolean isDrafted(int firstAttribute, int first, int n) {
            for (int i = firstAttribute; i < draft.count; i++) {
                if (draft.isNamed(i, buffer, first, n)) {
                    return true;
                }
            }
            return false;
        }

        private void readText(int atLevel) {
            if (at >= buffer.length) {
                throw new IllegalArgumentException("nothing there");
            }
            needRoom();
            int length = 0;
            while (length < MOST_TYPED && at < buffer.length && buffer.at(at) != '<') {
                draft.texts.add(readCharacter());
                length++;
            }
            draft.add(TEXT, atLevel, 0, length);
        }

        private void readComment(int atLevel) {
            expect('<');
            expect('!');
            expect('-');
            expect('-');
            int first = at;
            while (at < buffer.length && !buffer.spells(at, "--")) {
                at++;
            }
            int length = at - first;
            expect('-');
            expect('-');
            if (buffer.at(at) == '>') {
                needRoom();
            }
            expect('>');
            draft.words.put(draft.words.length, buffer, first, length);
            draft.add(COMMENT, atLevel, 0, length);
        }

        private int readCharacter() {
            int c = buffer.at(at);
            if (c == '<' || c == 0) {
                throw new IllegalArgumentException("no character");
            }
            if (c != '&') {
                at++;
                return c;
            }
            if (buffer.spells(at, "&lt;")) {
                at += 4;
                return '<';
            }
            if (buffer.spells(at, "&gt;")) {
                at += 4;
                return '>';
            }
            if (buffer.spells(at, "&amp;")) {
                at += 5;
                return '&';
            }
            if (buffer.spells(at, "&quot;")) {
                at += 6;
                return '"';
            }
            if (buffer.spells(at, "&apos;")) {
                at += 6;
                return '\'';
            }
            throw new IllegalArgumentException("an & that stands for nothing");
        }

        private int readName() {
            int n = buffer.nameLength(at);
            if (n == 0) {
                throw new IllegalArgumentException("no name");
            }
            at += n;
            return n;
        }

        private void needRoom() {
            if (draft.count >= room) {
                throw new IllegalStateException("too many nodes");
            }
        }

        private void expect(int c) {
            if (buffer.at(at) != c) {
                throw new IllegalArgumentException("another character is due");
            }
            at++;
        }

        private void expectEnd() {
            if (at < buffer.length) {
                throw new IllegalArgumentException("more than there can be");
            }
        }
    }

    /** Finds one character of the printed tree without making the whole. */
    private static final class Printer {
        private final Tree tree;
        private int wanted;
        private int seen;
        private int character;

        Printer(Tree tree) {
            this.tree = tree;
            wanted = 0;
            seen = 0;
            character = 0;
        }

        int printed(int k) {
            wanted = k;
            seen = 0;
            character = 0;
            for (int p = 1; p < tree.count && seen <= wanted; p++) {
                begin(p);
                endAllThatEndWith(p);
            }
            return character;
        }

        private void begin(int p) {
            switch (tree.kinds[p]) {
                case ELEMENT:
                    beginElement(p);
                    break;
                case TEXT:
                    putEscaped(p);
                    break;
                case COMMENT:
                    putWord("<!--");
                    putRow(tree.words, tree.valueFrom(p), tree.valueTo(p));
                    putWord("-->");
                    break;
                default:
                    // An attribute is printed with its element.
                    break;
            }
        }

        private void beginElement(int p) {
            put('<');
            putName(p);
            int behind = tree.behindAttributes(p);
            for (int i = p + 1; i < behind; i++) {
                put(' ');
                putName(i);
                putWord("=\"");
                putEscaped(i);
                put('"');
            }
            putWord(tree.hasChildren(p) ? ">" : "/>");
        }

        private void endAllThatEndWith(int p) {
            int i = p;
            for (int up = tree.levels[p]; up > 0 && i + tree.sizes[i] == p; up--) {
                if (tree.kinds[i] == ELEMENT && tree.hasChildren(i)) {
                    putWord("</");
                    putName(i);
                    put('>');
                }
                i = tree.parents[i];
            }
        }

        private void putName(int p) {
            putRow(tree.words, tree.wordFrom[p], tree.wordFrom[p] + tree.nameLengths[p]);
        }

        private void putEscaped(int p) {
            Row row = tree.valueRow(p);
            int end = tree.valueTo(p);
            for (int i = tree.valueFrom(p); i < end; i++) {
                int c = row.at(i);
                if (c == '&') {
                    putWord("&amp;");
                } else if (c == '<') {
                    putWord("&lt;");
                } else if (c == '"' && tree.kinds[p] == ATTRIBUTE) {
                    putWord("&quot;");
                } else {
                    put(c);
                }
            }
        }

        private void putRow(Row row, int first, int end) {
            for (int i = first; i < end; i++) {
                put(row.at(i));
            }
        }

        private void putWord(String word) {
            for (int i = 0; i < word.length(); i++) {
                put(word.charAt(i));
            }
        }

        private void put(int c) {
            if (seen == wanted) {
                character = c;
            }
            seen++;
        }
    }

    private enum Axis {
        CHILD("child", false),
        DESCENDANT("descendant", false),
        PARENT("parent", true),
        ANCESTOR("ancestor", true),
        SELF("self", false),
        ATTRIBUTES("attribute", false),
        FOLLOWING_SIBLING("following-sibling", false),
        PRECEDING_SIBLING("preceding-sibling", true),
        FOLLOWING("following", false),
        PRECEDING("preceding", true),
        DESCENDANT_OR_SELF("descendant-or-self", false),
        ANCESTOR_OR_SELF("ancestor-or-self", true);

        private static final Axis[] ALL = values();

        private final String word;
        private final boolean backward;

        Axis(String word, boolean backward) {
            this.word = word;
            this.backward = backward;
        }
    }

    /** A step of a path. What it gives from a node never changes within a query, so it is kept. */
    private static final class Step {
        private Axis axis;
        private int test;
        private int nameFirst;
        private int nameLength;
        private Part firstPredicate;
        private Part lastPredicate;
        private Step next;
        private int known;
        private final int[] given = new int[MOST_NODES];

        void begin(Axis newAxis, int newTest) {
            axis = newAxis;
            test = newTest;
            nameFirst = 0;
            nameLength = 0;
            firstPredicate = null;
            lastPredicate = null;
            next = null;
            known = 0;
        }

        void append(Part predicate) {
            if (lastPredicate == null) {
                firstPredicate = predicate;
            } else {
                lastPredicate.next = predicate;
            }
            lastPredicate = predicate;
        }
    }

    /** A part of an expr, with its latest value: a number (a boolean is 1 or 0), a set, or a stretch of the buffer. */
    private static final class Part {
        private int sort;
        private Part left;
        private Part right;
        private Part next;
        private boolean subtracted;
        private boolean fromDocument;
        private Step firstStep;
        private Step lastStep;
        private long number;
        private int set;
        private int first;
        private int end;

        void begin(int newSort) {
            sort = newSort;
            left = null;
            right = null;
            next = null;
            subtracted = false;
            fromDocument = false;
            firstStep = null;
            lastStep = null;
            number = 0;
            set = 0;
            first = 0;
            end = 0;
        }

        void append(Step step) {
            if (lastStep == null) {
                firstStep = step;
            } else {
                lastStep.next = step;
            }
            lastStep = step;
        }

        boolean isNumber() {
            return sort <= SUM;
        }

        boolean isSet() {
            return sort == PATH;
        }

        boolean isBoolean() {
            return sort >= NOT;
        }

        boolean isTrue() {
            if (isSet()) {
                return set != 0;
            }
            if (sort == LITERAL) {
                return first < end;
            }
            return number != 0 && number != NONE;
        }
    }

    /** Reads the path in the buffer into steps and parts, which are used again by the next query. */
    private static final class PathReader {
        private final Row buffer;
        private final Step[] steps = new Step[MOST_STEPS];
        private final Part[] parts = new Part[MOST_PARTS];
        private int usedSteps;
        private int usedParts;
        private int at;

        PathReader(Row buffer) {
            this.buffer = buffer;
            for (int i = 0; i < MOST_STEPS; i++) {
                steps[i] = new Step();
            }
            for (int i = 0; i < MOST_PARTS; i++) {
                parts[i] = new Part();
            }
            usedSteps = 0;
            usedParts = 0;
            at = 0;
        }

        Part readPath() {
            usedSteps = 0;
            usedParts = 0;
            at = 0;
            Part path = path(0);
            if (at < buffer.length) {
                throw new IllegalArgumentException("more than a path");
            }
            return path;
        }

        private Part path(int nested) {
            Part path = newPart(PATH);
            path.fromDocument = take('/');
            if (path.fromDocument && buffer.at(at) != '/' && !stepComes()) {
                return path;
            }
            for (int turn = 0; turn < MOST_TYPED; turn++) {
                if (take('/')) {
                    path.append(newStep(Axis.DESCENDANT_OR_SELF, TEST_NODE));
                }
                path.append(step(nested));
                if (!take('/')) {
                    return path;
                }
            }
            return path;
        }

        private boolean stepComes() {
            int c = buffer.at(at);
            return c == '.' || c == '@' || c == '*' || isLetter(c);
        }

        private Step step(int nested) {
            if (take('.')) {
                return newStep(take('.') ? Axis.PARENT : Axis.SELF, TEST_NODE);
            }
            Step step = newStep(axis(), TEST_STAR);
            if (!take('*')) {
                readNameOrKind(step);
            }
            for (int turn = 0; turn < MOST_TYPED && take('['); turn++) {
                step.append(expr(deeper(nested)));
                expect(']');
            }
            return step;
        }

        private Axis axis() {
            if (take('@')) {
                return Axis.ATTRIBUTES;
            }
            int n = buffer.nameLength(at);
            if (n == 0 || !buffer.spells(at + n, "::")) {
                return Axis.CHILD;
            }
            int first = at;
            at += n + 2;
            for (int i = 0; i < Axis.ALL.length; i++) {
                if (buffer.isWord(first, n, Axis.ALL[i].word)) {
                    return Axis.ALL[i];
                }
            }
            throw new IllegalArgumentException("no such axis");
        }

        private void readNameOrKind(Step step) {
            int n = buffer.nameLength(at);
            if (n == 0) {
                throw new IllegalArgumentException("no test");
            }
            int first = at;
            at += n;
            if (take('(')) {
                expect(')');
                step.test = kindTest(first, n);
                return;
            }
            step.test = TEST_NAME;
            step.nameFirst = first;
            step.nameLength = n;
        }

        private int kindTest(int first, int n) {
            if (buffer.isWord(first, n, "text")) {
                return TEST_TEXT;
            }
            if (buffer.isWord(first, n, "comment")) {
                return TEST_COMMENT;
            }
            if (buffer.isWord(first, n, "node")) {
                return TEST_NODE;
            }
            throw new IllegalArgumentException("no such test");
        }

        private Part expr(int nested) {
            Part left = sum(nested);
            int sort = comparison();
            if (sort == NO_PART) {
                return left;
            }
            Part both = newPart(sort);
            both.left = left;
            both.right = sum(nested);
            return both;
        }

        private int comparison() {
            if (take('=')) {
                return EQUAL;
            }
            if (take('<')) {
                return LESS;
            }
            if (take('>')) {
                return MORE;
            }
            if (take('!')) {
                expect('=');
                return UNEQUAL;
            }
            return NO_PART;
        }

        private Part sum(int nested) {
            Part latest = operand(nested);
            if (!signComes()) {
                return latest;
            }
            Part sum = newPart(SUM);
            sum.left = latest;
            for (int turn = 0; turn < MOST_TYPED && signComes(); turn++) {
                boolean subtracted = buffer.at(at) == '-';
                at++;
                latest.next = operand(nested);
                latest = latest.next;
                latest.subtracted = subtracted;
            }
            return sum;
        }

        private boolean signComes() {
            return buffer.at(at) == '+' || buffer.at(at) == '-';
        }

        private Part operand(int nested) {
            if (isDigit(buffer.at(at))) {
                return number();
            }
            if (buffer.at(at) == '\'') {
                return literal();
            }
            int n = buffer.nameLength(at);
            int sort = n > 0 && buffer.at(at + n) == '(' ? function(n) : NO_PART;
            if (sort == NO_PART) {
                return path(nested);
            }
            at += n + 1;
            Part call = newPart(sort);
            if (sort == COUNT) {
                call.left = path(deeper(nested));
            } else if (sort == NOT) {
                call.left = expr(deeper(nested));
            }
            expect(')');
            return call;
        }

        private int function(int n) {
            if (buffer.isWord(at, n, "position")) {
                return POSITION;
            }
            if (buffer.isWord(at, n, "last")) {
                return LAST;
            }
            if (buffer.isWord(at, n, "count")) {
                return COUNT;
            }
            return buffer.isWord(at, n, "not") ? NOT : NO_PART;
        }

        private Part number() {
            Part part = newPart(NUMBER);
            for (int digits = 0; digits < 6 && isDigit(buffer.at(at)); digits++) {
                part.number = part.number * 10 + (buffer.at(at) - '0');
                at++;
            }
            return part;
        }

        private Part literal() {
            Part part = newPart(LITERAL);
            expect('\'');
            part.first = at;
            while (at < buffer.length && buffer.at(at) != '\'') {
                at++;
            }
            part.end = at;
            expect('\'');
            return part;
        }

        private int deeper(int nested) {
            if (nested >= MOST_NESTED) {
                throw new IllegalArgumentException("too much in one another");
            }
            return nested + 1;
        }

        private Step newStep(Axis axis, int test) {
            if (usedSteps >= MOST_STEPS) {
                throw new IllegalArgumentException("too many steps");
            }
            Step step = steps[usedSteps];
            usedSteps++;
            step.begin(axis, test);
            return step;
        }

        private Part newPart(int sort) {
            if (usedParts >= MOST_PARTS) {
                throw new IllegalArgumentException("too many parts");
            }
            Part part = parts[usedParts];
            usedParts++;
            part.begin(sort);
            return part;
        }

        private boolean take(int c) {
            if (buffer.at(at) != c) {
                return false;
            }
            at++;
            return true;
        }

        private void expect(int c) {
            if (!take(c)) {
                throw new IllegalArgumentException("another character is due");
            }
        }
    }

    private static final class PathWalker {
        private final Row buffer;
        private final Tree tree;

        PathWalker(Row buffer, Tree tree) {
            this.buffer = buffer;
            this.tree = tree;
        }

        int nodesOf(Part path, int from) {
            return walk(path, from);
        }

        private int walk(Part path, int node) {
            if (path == null) {
                return 0;
            }
            int set = 1 << (path.fromDocument ? 0 : node);
            for (Step step = path.firstStep; step != null; step = step.next) {
                set = allGiven(step, set);
            }
            return set;
        }

        private int allGiven(Step step, int from) {
            int set = 0;
            for (int p = 0; p < tree.count; p++) {
                if (holds(from, p)) {
                    set |= given(step, p);
                }
            }
            return set;
        }

        // Without what is kept here, predicates in one another would be looked at millions of times.
        private int given(Step step, int from) {
            if (holds(step.known, from)) {
                return step.given[from];
            }
            int set = 0;
            for (int p = 0; p < tree.count; p++) {
                if (isOnAxis(step.axis, from, p) && passes(step, p)) {
                    set |= 1 << p;
                }
            }
            for (Part predicate = step.firstPredicate; predicate != null; predicate = predicate.next) {
                set = filtered(set, predicate, step.axis.backward);
            }
            step.given[from] = set;
            step.known |= 1 << from;
            return set;
        }

        private int filtered(int set, Part predicate, boolean backward) {
            int last = Integer.bitCount(set);
            int position = 0;
            int left = 0;
            for (int i = 0; i < tree.count; i++) {
                int p = backward ? tree.count - 1 - i : i;
                if (holds(set, p)) {
                    position++;
                    evaluate(predicate, p, position, last);
                    if (predicate.isNumber() ? predicate.number == position : predicate.isTrue()) {
                        left |= 1 << p;
                    }
                }
            }
            return left;
        }

        private boolean isOnAxis(Axis axis, int from, int p) {
            boolean plain = tree.kinds[p] != ATTRIBUTE;
            boolean below = p > from && p <= from + tree.sizes[from];
            boolean above = p < from && from <= p + tree.sizes[p];
            switch (axis) {
                case CHILD:
                    return plain && tree.parents[p] == from;
                case DESCENDANT:
                    return plain && below;
                case PARENT:
                    return tree.parents[from] == p;
                case ANCESTOR:
                    return above;
                case SELF:
                    return p == from;
                case ATTRIBUTES:
                    return !plain && tree.parents[p] == from;
                case FOLLOWING_SIBLING:
                    return p > from && areSiblings(from, p);
                case PRECEDING_SIBLING:
                    return p < from && areSiblings(from, p);
                case FOLLOWING:
                    return plain && p > from && !below;
                case PRECEDING:
                    return plain && p < from && !above;
                case DESCENDANT_OR_SELF:
                    return p == from || (plain && below);
                case ANCESTOR_OR_SELF:
                    return p == from || above;
                default:
                    return false;
            }
        }

        private boolean areSiblings(int p, int q) {
            return tree.kinds[p] != ATTRIBUTE && tree.kinds[q] != ATTRIBUTE && tree.parents[p] == tree.parents[q];
        }

        private boolean passes(Step step, int p) {
            int principal = step.axis == Axis.ATTRIBUTES ? ATTRIBUTE : ELEMENT;
            switch (step.test) {
                case TEST_NAME:
                    return tree.kinds[p] == principal && tree.isNamed(p, buffer, step.nameFirst, step.nameLength);
                case TEST_STAR:
                    return tree.kinds[p] == principal;
                case TEST_TEXT:
                    return tree.kinds[p] == TEXT;
                case TEST_COMMENT:
                    return tree.kinds[p] == COMMENT;
                default:
                    return true;
            }
        }

        /** Leaves the value in the part: no part is looked at again while its own value is being worked out. */
        private void evaluate(Part part, int node, int position, int last) {
            if (part == null) {
                return;
            }
            switch (part.sort) {
                case POSITION:
                    part.number = position;
                    break;
                case LAST:
                    part.number = last;
                    break;
                case COUNT:
                    part.number = Integer.bitCount(walk(part.left, node));
                    break;
                case SUM:
                    part.number = total(part, node, position, last);
                    break;
                case PATH:
                    part.set = walk(part, node);
                    break;
                case NOT:
                    evaluate(part.left, node, position, last);
                    part.number = part.left != null && part.left.isTrue() ? 0 : 1;
                    break;
                case EQUAL:
                case UNEQUAL:
                case LESS:
                case MORE:
                    evaluate(part.left, node, position, last);
                    evaluate(part.right, node, position, last);
                    part.number = compares(part.sort, part.left, part.right) ? 1 : 0;
                    break;
                default:
                    // A number or a literal has had its value since it was read.
                    break;
            }
        }

        private long total(Part sum, int node, int position, int last) {
            long total = 0;
            for (Part term = sum.left; term != null; term = term.next) {
                evaluate(term, node, position, last);
                long number = numberOf(term, firstOf(term.set));
                if (number == NONE) {
                    return NONE;
                }
                total += term.subtracted ? -number : number;
            }
            return total;
        }

        private int firstOf(int set) {
            for (int p = 0; p < tree.count; p++) {
                if (holds(set, p)) {
                    return p;
                }
            }
            return -1;
        }

        private boolean compares(int sort, Part left, Part right) {
            if (left == null || right == null) {
                return false;
            }
            if ((left.isBoolean() && right.isSet()) || (left.isSet() && right.isBoolean())) {
                return compareNumbers(sort, left.isTrue() ? 1 : 0, right.isTrue() ? 1 : 0);
            }
            // A value that is no set is compared once, as if it were a set of one node.
            int lefts = left.isSet() ? left.set : 1;
            int rights = right.isSet() ? right.set : 1;
            for (int p = 0; p < tree.count; p++) {
                for (int q = 0; q < tree.count && holds(lefts, p); q++) {
                    if (holds(rights, q) && comparePair(sort, left, p, right, q)) {
                        return true;
                    }
                }
            }
            return false;
        }

        /** Here a set stands for the string-value of its node p or q, as a text. */
        private boolean comparePair(int sort, Part left, int p, Part right, int q) {
            boolean ordered = sort == LESS || sort == MORE;
            if (!ordered && (left.isBoolean() || right.isBoolean())) {
                return (left.isTrue() == right.isTrue()) == (sort == EQUAL);
            }
            if (ordered || left.isNumber() || right.isNumber()) {
                return compareNumbers(sort, numberOf(left, p), numberOf(right, q));
            }
            return isSameText(left, p, right, q) == (sort == EQUAL);
        }

        private boolean compareNumbers(int sort, long left, long right) {
            if (left == NONE || right == NONE) {
                return sort == UNEQUAL;
            }
            switch (sort) {
                case EQUAL:
                    return left == right;
                case UNEQUAL:
                    return left != right;
                case LESS:
                    return left < right;
                default:
                    return left > right;
            }
        }

        private long numberOf(Part part, int p) {
            if (part.isSet()) {
                return p < 0 ? NONE : tree.valueRow(p).asNumber(tree.valueFrom(p), tree.valueTo(p));
            }
            return part.sort == LITERAL ? buffer.asNumber(part.first, part.end) : part.number;
        }

        private boolean isSameText(Part left, int p, Part right, int q) {
            Row leftRow = left.isSet() ? tree.valueRow(p) : buffer;
            int leftFirst = left.isSet() ? tree.valueFrom(p) : left.first;
            int leftEnd = left.isSet() ? tree.valueTo(p) : left.end;
            Row rightRow = right.isSet() ? tree.valueRow(q) : buffer;
            int rightFirst = right.isSet() ? tree.valueFrom(q) : right.first;
            int rightEnd = right.isSet() ? tree.valueTo(q) : right.end;
            return leftRow.isSame(leftFirst, leftEnd - leftFirst, rightRow, rightFirst, rightEnd - rightFirst);
        }
    }
}
