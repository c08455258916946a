import java.util.ArrayList;
import java.util.List;

/** A node of the plain model: it knows its parent, its attributes and its children, and no number. */
final class ModelNode {
    static final int DOCUMENT = 0;
    static final int ELEMENT = 1;
    static final int ATTRIBUTE = 2;
    static final int TEXT = 3;
    static final int COMMENT = 4;

    final int kind;
    final List<ModelNode> attributes = new ArrayList<>();
    final List<ModelNode> children = new ArrayList<>();
    String name = "";
    String own = "";
    ModelNode parent;

    ModelNode(int kind, ModelNode parent) {
        this.kind = kind;
        this.parent = parent;
    }

    /** This node, its attributes and all that it contains, in document order. */
    List<ModelNode> all() {
        List<ModelNode> nodes = new ArrayList<>();
        nodes.add(this);
        nodes.addAll(attributes);
        for (ModelNode child : children) {
            nodes.addAll(child.all());
        }
        return nodes;
    }

    List<ModelNode> ancestors() {
        List<ModelNode> nodes = new ArrayList<>();
        for (ModelNode up = parent; up != null; up = up.parent) {
            nodes.add(up);
        }
        return nodes;
    }

    String value() {
        if (kind != DOCUMENT && kind != ELEMENT) {
            return own;
        }
        StringBuilder texts = new StringBuilder();
        for (ModelNode child : children) {
            texts.append(child.kind == COMMENT ? "" : child.value());
        }
        return texts.toString();
    }

    String printed() {
        StringBuilder text = new StringBuilder();
        if (kind == TEXT) {
            return escaped(own);
        }
        if (kind == COMMENT) {
            return "<!--" + own + "-->";
        }
        if (kind == ELEMENT) {
            text.append("<").append(name);
            for (ModelNode attribute : attributes) {
                text.append(" ").append(attribute.name).append("=\"");
                text.append(escaped(attribute.own).replace("\"", "&quot;")).append("\"");
            }
            text.append(children.isEmpty() ? "/>" : ">");
        }
        for (ModelNode child : children) {
            text.append(child.printed());
        }
        if (kind == ELEMENT && !children.isEmpty()) {
            text.append("</").append(name).append(">");
        }
        return text.toString();
    }

    private static String escaped(String text) {
        return text.replace("&", "&amp;").replace("<", "&lt;");
    }
}
