import java.util.List;

/**
 * Reads a document, or a piece of one, a character at a time, so that what is thrown is thrown at the
 * first character with which something goes wrong.
 */
final class ModelText {
    private static final int END = -1;
    private static final List<String> ENTITIES = List.of("&lt;", "&gt;", "&amp;", "&quot;", "&apos;");
    private static final String MEANT = "<>&\"'";

    private enum State {
        BEFORE, BEHIND, CONTENT, PIECE, PIECE_TEXT, PIECE_DONE, LESS, BANG, DASH, COMMENT, COMMENT_DASH, COMMENT_DASHES,
        NAME, TAG, TAG_BLANK, SLASH, ATTRIBUTE, QUOTE, VALUE, END_BEGIN, END_NAME, END_BLANK, READ
    }

    private final ModelNode top;
    private final int topLevel;
    private int room;
    private ModelNode current;
    private ModelNode openText;
    private State home;
    private State state;
    private StringBuilder word = new StringBuilder();
    private String attributeName;
    private int quote;
    // What has been read of an & and what is behind it, or null.
    private String entity;

    private ModelText(ModelNode top, int topLevel, int room, State first) {
        this.top = top;
        this.topLevel = topLevel;
        this.room = room;
        current = top;
        state = first;
    }

    static ModelNode document(String text) {
        ModelText reader = new ModelText(new ModelNode(ModelNode.DOCUMENT, null), 0, 29, State.BEFORE);
        reader.read(text);
        return reader.top;
    }

    /** What would come into an element of this level. */
    static ModelNode piece(String text, int level, int room) {
        ModelText reader = new ModelText(new ModelNode(ModelNode.ELEMENT, null), level, room, State.PIECE);
        reader.read(text);
        return reader.top.children.get(0);
    }

    private void read(String text) {
        for (int i = 0; i < text.length(); i++) {
            feed(text.charAt(i));
        }
        feed(END);
        if (state != State.READ) {
            throw new AssertionError("read on behind the end of " + text);
        }
    }

    private void feed(int c) {
        if (entity != null) {
            inEntity(c);
            return;
        }
        switch (state) {
            case BEFORE: outside(c, false); break;
            case BEHIND: outside(c, true); break;
            case CONTENT: content(c); break;
            case PIECE: content(c); break;
            case PIECE_TEXT: pieceText(c); break;
            case PIECE_DONE: go(c == END, State.READ); break;
            case LESS: behindLess(c); break;
            case BANG: behindBang(c); break;
            case DASH: go(c == '-', State.COMMENT); break;
            case COMMENT: comment(c); break;
            case COMMENT_DASH: commentDash(c); break;
            case COMMENT_DASHES: endComment(c); break;
            case NAME: name(c); break;
            case TAG: tag(c, false); break;
            case TAG_BLANK: tag(c, true); break;
            case SLASH: go(c == '>', State.SLASH); close(); break;
            case ATTRIBUTE: attribute(c); break;
            case QUOTE: go(c == '"' || c == '\'', State.VALUE); quote = c; break;
            case VALUE: value(c); break;
            case END_BEGIN: go(isLetter(c), State.END_NAME); add(c); break;
            case END_NAME: endName(c); break;
            default: endBlank(c); break;
        }
    }

    private void go(boolean right, State next) {
        if (!right) {
            throw new IllegalArgumentException();
        }
        state = next;
    }

    private void outside(int c, boolean behind) {
        if (c == '<') {
            begin(c, State.LESS);
        } else if (c == END) {
            go(behind, State.READ);
        } else {
            go(isBlank(c), state);
        }
    }

    private void content(int c) {
        if (c == '<') {
            begin(c, State.LESS);
            return;
        }
        go(c != END, state == State.PIECE ? State.PIECE_TEXT : state);
        textCharacter(c);
    }

    private void pieceText(int c) {
        go(c != '<', c == END ? State.READ : state);
        if (c != END) {
            textCharacter(c);
        }
    }

    private void textCharacter(int c) {
        if (openText == null) {
            takeRoom();
            openText = new ModelNode(ModelNode.TEXT, current);
            current.children.add(openText);
        }
        character(c);
    }

    private void character(int c) {
        if (c == '&') {
            entity = "&";
        } else if (state == State.VALUE) {
            add(c);
        } else {
            openText.own += (char) c;
        }
    }

    private void inEntity(int c) {
        String read = entity + (char) c;
        go(c != END && ENTITIES.stream().anyMatch(whole -> whole.startsWith(read)), state);
        entity = read;
        if (ENTITIES.contains(read)) {
            entity = null;
            char meant = MEANT.charAt(ENTITIES.indexOf(read));
            if (state == State.VALUE) {
                add(meant);
            } else {
                openText.own += meant;
            }
        }
    }

    private void begin(int c, State next) {
        home = state;
        openText = null;
        word = new StringBuilder();
        state = next;
    }

    private void behindLess(int c) {
        if (c == '?') {
            throw new UnsupportedOperationException();
        }
        if (c == '!') {
            state = State.BANG;
        } else if (c == '/') {
            go(home == State.CONTENT, State.END_BEGIN);
        } else {
            go(isLetter(c) && home != State.BEHIND, State.NAME);
            add(c);
        }
    }

    private void behindBang(int c) {
        if (c == 'D' || c == '[') {
            throw new UnsupportedOperationException();
        }
        go(c == '-', State.DASH);
    }

    private void comment(int c) {
        go(c != END, c == '-' ? State.COMMENT_DASH : state);
        if (c != '-') {
            add(c);
        }
    }

    private void commentDash(int c) {
        go(c != END, c == '-' ? State.COMMENT_DASHES : State.COMMENT);
        if (c != '-') {
            add('-');
            add(c);
        }
    }

    private void endComment(int c) {
        go(c == '>', home == State.PIECE ? State.PIECE_DONE : home);
        takeRoom();
        ModelNode node = new ModelNode(ModelNode.COMMENT, current);
        node.own = word.toString();
        current.children.add(node);
    }

    private void name(int c) {
        if (isInName(c)) {
            add(c);
            return;
        }
        if (level(current) + 1 > 8) {
            throw new IllegalStateException();
        }
        takeRoom();
        ModelNode node = new ModelNode(ModelNode.ELEMENT, current);
        node.name = word.toString();
        current.children.add(node);
        current = node;
        state = State.TAG;
        feed(c);
    }

    private void tag(int c, boolean behindBlank) {
        if (isBlank(c)) {
            state = State.TAG_BLANK;
        } else if (c == '/') {
            state = State.SLASH;
        } else if (c == '>') {
            state = State.CONTENT;
        } else {
            go(behindBlank && isLetter(c), State.ATTRIBUTE);
            word = new StringBuilder();
            add(c);
        }
    }

    private void attribute(int c) {
        if (isInName(c)) {
            add(c);
            return;
        }
        String read = word.toString();
        boolean isNew = current.attributes.stream().noneMatch(other -> other.name.equals(read));
        go(c == '=' && isNew, State.QUOTE);
        attributeName = read;
        word = new StringBuilder();
    }

    private void value(int c) {
        if (c != quote) {
            go(c != '<' && c != END, state);
            character(c);
            return;
        }
        takeRoom();
        ModelNode node = new ModelNode(ModelNode.ATTRIBUTE, current);
        node.name = attributeName;
        node.own = word.toString();
        current.attributes.add(node);
        state = State.TAG;
    }

    private void endName(int c) {
        if (isInName(c)) {
            add(c);
            return;
        }
        go(word.toString().equals(current.name), State.END_BLANK);
        endBlank(c);
    }

    private void endBlank(int c) {
        go(isBlank(c) || c == '>', state);
        if (c == '>') {
            close();
        }
    }

    private void close() {
        current = current.parent;
        boolean out = current == top;
        state = !out ? State.CONTENT : top.kind == ModelNode.DOCUMENT ? State.BEHIND : State.PIECE_DONE;
    }

    private int level(ModelNode node) {
        return topLevel + (int) node.ancestors().size();
    }

    private void takeRoom() {
        if (room == 0) {
            throw new IllegalStateException();
        }
        room--;
    }

    private void add(int c) {
        word.append((char) c);
    }

    static boolean isBlank(int c) {
        return c == ' ' || c == '\n';
    }

    static boolean isLetter(int c) {
        return c >= 'a' && c <= 'z' || c >= 'A' && c <= 'Z';
    }

    static boolean isInName(int c) {
        return isLetter(c) || c >= '0' && c <= '9' || c == '-' || c == '_';
    }
}
