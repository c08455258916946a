import java.util.ArrayList;
import java.util.List;

/** The document's words once more, in lists and texts of the Java library: answers come as Run gives them. */
final class Model {
    private String buffer = "";
    private ModelNode document = new ModelNode(ModelNode.DOCUMENT, null);
    private List<Integer> found = new ArrayList<>();

    private interface Call {
        int answer();
    }

    private static String answer(Call call) {
        try {
            return String.valueOf(call.answer());
        } catch (IllegalArgumentException | IllegalStateException | IndexOutOfBoundsException | UnsupportedOperationException e) {
            return "throws." + e.getClass().getSimpleName();
        }
    }

    boolean type(long eight) {
        StringBuilder more = new StringBuilder();
        for (int i = 7; i >= 0; i--) {
            int c = (int) (eight >> 8 * i & 255);
            if (c != 0 && c != 10 && (c < 32 || c > 126)) {
                return false;
            }
            more.append(c == 0 ? "" : String.valueOf((char) c));
        }
        if (buffer.length() + more.length() > 120) {
            return false;
        }
        buffer += more;
        return true;
    }

    void wipe() {
        buffer = "";
    }

    String load() {
        return answer(() -> {
            document = ModelText.document(buffer);
            changed();
            buffer = "";
            return document.all().size();
        });
    }

    String insert(int p, int where) {
        return answer(() -> {
            ModelNode node = node(p);
            check(where >= 0 && where <= 3);
            ModelNode into = where < 2 ? node : node.parent;
            check(into != null && into.kind == ModelNode.ELEMENT && (where < 2 || node.kind != ModelNode.ATTRIBUTE));
            ModelNode piece = ModelText.piece(buffer, into.ancestors().size(), 30 - document.all().size());
            int i = where == 0 ? 0 : where == 1 ? into.children.size() : into.children.indexOf(node) + where - 2;
            piece.parent = into;
            into.children.add(i, piece);
            ModelNode before = i > 0 ? into.children.get(i - 1) : null;
            boolean joins = before != null && before.kind == ModelNode.TEXT && piece.kind == ModelNode.TEXT;
            joinTexts(into);
            changed();
            buffer = "";
            return document.all().indexOf(joins ? before : piece);
        });
    }

    String delete(int p) {
        return answer(() -> {
            ModelNode node = node(p);
            if (node == document || node.kind == ModelNode.ELEMENT && node.parent == document) {
                throw new IllegalStateException();
            }
            int before = document.all().size();
            node.parent.attributes.remove(node);
            node.parent.children.remove(node);
            joinTexts(node.parent);
            changed();
            return before - document.all().size();
        });
    }

    String rename(int p) {
        return answer(() -> {
            ModelNode node = node(p);
            if (node.kind != ModelNode.ELEMENT && node.kind != ModelNode.ATTRIBUTE) {
                throw new IllegalStateException();
            }
            String name = buffer;
            boolean taken = node.kind == ModelNode.ATTRIBUTE
                && node.parent.attributes.stream().anyMatch(other -> other != node && other.name.equals(name));
            if (taken || !name.matches("[a-zA-Z][a-zA-Z0-9_-]*")) {
                throw new IllegalArgumentException();
            }
            node.name = name;
            changed();
            buffer = "";
            return name.length();
        });
    }

    String query(int p) {
        return answer(() -> {
            List<ModelNode> nodes = document.all();
            List<Integer> numbers = new ArrayList<>();
            for (ModelNode node : ModelPath.follow(buffer, document, node(p))) {
                numbers.add(nodes.indexOf(node));
            }
            found = numbers;
            buffer = "";
            return numbers.size();
        });
    }

    String result(int k) {
        return answer(() -> {
            check(k >= 0 && k < found.size());
            return found.get(k);
        });
    }

    int nodes() {
        return document.all().size();
    }

    int kind(int p) {
        return has(p) ? node(p).kind : -1;
    }

    int size(int p) {
        return has(p) ? node(p).all().size() - 1 : -1;
    }

    int level(int p) {
        return has(p) ? node(p).ancestors().size() : -1;
    }

    int name(int p, int k) {
        return has(p) ? character(node(p).name, k) : 0;
    }

    int value(int p, int k) {
        return has(p) ? character(node(p).value(), k) : 0;
    }

    int print(int k) {
        return character(document.printed(), k);
    }

    String printed() {
        return document.printed();
    }

    String all() {
        StringBuilder all = new StringBuilder();
        for (ModelNode node : document.all()) {
            all.append(node.kind).append(',').append(node.ancestors().size()).append(',').append(node.all().size() - 1);
            all.append(',').append(node.name).append(',').append(node.value()).append(';');
        }
        return all.toString();
    }

    private void changed() {
        found = new ArrayList<>();
    }

    private boolean has(int p) {
        return p >= 0 && p < document.all().size();
    }

    private ModelNode node(int p) {
        check(has(p));
        return document.all().get(p);
    }

    private static void check(boolean right) {
        if (!right) {
            throw new IndexOutOfBoundsException();
        }
    }

    private static int character(String text, int k) {
        return k >= 0 && k < text.length() ? text.charAt(k) : 0;
    }

    private static void joinTexts(ModelNode parent) {
        for (int i = parent.children.size() - 2; i >= 0; i--) {
            ModelNode left = parent.children.get(i);
            ModelNode right = parent.children.get(i + 1);
            if (left.kind == ModelNode.TEXT && right.kind == ModelNode.TEXT) {
                left.own += right.own;
                parent.children.remove(i + 1);
            }
        }
    }
}
