import java.util.ArrayList;
import java.util.Collections;
import java.util.LinkedHashSet;
import java.util.List;
import java.util.Set;
import java.util.TreeMap;

/** A path, read and followed as the document says it, over nodes that know their parents and children. */
final class ModelPath {
    /** What a number is that is none. */
    private static final Object NONE = new Object();

    private static final List<String> BACKWARD =
        List.of("parent", "ancestor", "preceding-sibling", "preceding", "ancestor-or-self");
    private static final List<String> FORWARD =
        List.of("child", "descendant", "self", "attribute", "following-sibling", "following", "descendant-or-self");

    /** Thrown when a path would take the model too long. */
    static final class TooDear extends RuntimeException {
    }

    /** A Long or NONE, a String, a Boolean, or a List of nodes in document order. */
    private interface Expr {
        Object at(ModelNode node, int position, int last);
    }

    private interface Test {
        boolean passes(ModelNode node);
    }

    private static final class Step {
        String axis = "child";
        Test test = node -> true;
        final List<Expr> predicates = new ArrayList<>();
    }

    private final String text;
    private final List<ModelNode> order;
    private int at;
    private int work;

    private ModelPath(String text, ModelNode document) {
        this.text = text;
        order = document.all();
    }

    static List<ModelNode> follow(String text, ModelNode document, ModelNode from) {
        ModelPath reader = new ModelPath(text, document);
        Expr path = reader.path(0);
        reader.need(reader.at == text.length());
        return nodes(path.at(from, 1, 1));
    }

    private Expr path(int nested) {
        boolean absolute = take("/");
        List<Step> steps = new ArrayList<>();
        if (absolute && !stepComes() && !comes("/")) {
            return (node, position, last) -> List.of(order.get(0));
        }
        if (absolute && take("/")) {
            steps.add(descendants());
        }
        steps.add(step(nested));
        while (comes("/")) {
            take("/");
            if (take("/")) {
                steps.add(descendants());
            }
            steps.add(step(nested));
        }
        return (node, position, last) -> {
            Set<ModelNode> set = Set.of(absolute ? order.get(0) : node);
            for (Step step : steps) {
                Set<ModelNode> next = new LinkedHashSet<>();
                set.forEach(from -> next.addAll(given(step, from)));
                set = next;
            }
            return inOrder(set);
        };
    }

    private boolean stepComes() {
        return comes(".") || comes("@") || comes("*") || at < text.length() && ModelText.isLetter(text.charAt(at));
    }

    private static Step descendants() {
        Step step = new Step();
        step.axis = "descendant-or-self";
        return step;
    }

    private Step step(int nested) {
        Step step = new Step();
        if (take("..")) {
            step.axis = "parent";
            return step;
        }
        if (take(".")) {
            step.axis = "self";
            return step;
        }
        if (take("@")) {
            step.axis = "attribute";
        } else if (text.startsWith("::", nameEnd())) {
            step.axis = name();
            need((BACKWARD.contains(step.axis) || FORWARD.contains(step.axis)) && take("::"));
        }
        step.test = test(step.axis.equals("attribute") ? ModelNode.ATTRIBUTE : ModelNode.ELEMENT);
        while (take("[")) {
            need(nested < 4);
            step.predicates.add(expr(nested + 1));
            need(take("]"));
        }
        return step;
    }

    private Test test(int principal) {
        if (take("*")) {
            return node -> node.kind == principal;
        }
        String name = name();
        if (!take("(")) {
            need(!comes("::"));
            return node -> node.kind == principal && node.name.equals(name);
        }
        need(take(")"));
        need(List.of("text", "comment", "node").contains(name));
        return node -> name.equals("node")
            || node.kind == (name.equals("text") ? ModelNode.TEXT : ModelNode.COMMENT);
    }

    private Expr expr(int nested) {
        Expr left = sum(nested);
        for (String sign : new String[] { "=", "!=", "<", ">" }) {
            if (take(sign)) {
                Expr right = sum(nested);
                return (node, position, last) -> compare(sign, left.at(node, position, last), right.at(node, position, last));
            }
        }
        return left;
    }

    private Expr sum(int nested) {
        Expr total = value(nested);
        while (comes("+") || comes("-")) {
            boolean plus = take("+") || !take("-");
            Expr left = total;
            Expr right = value(nested);
            total = (node, position, last) -> {
                Object a = number(left.at(node, position, last));
                Object b = number(right.at(node, position, last));
                if (a == NONE || b == NONE) {
                    return NONE;
                }
                return plus ? (Long) a + (Long) b : (Long) a - (Long) b;
            };
        }
        return total;
    }

    private Expr value(int nested) {
        int end = at;
        while (end < text.length() && Character.isDigit(text.charAt(end))) {
            end++;
        }
        if (end > at) {
            need(end - at <= 6);
            long number = Long.parseLong(text.substring(at, end));
            at = end;
            return (node, position, last) -> number;
        }
        if (take("'")) {
            int close = text.indexOf('\'', at);
            need(close >= 0);
            String literal = text.substring(at, close);
            at = close + 1;
            return (node, position, last) -> literal;
        }
        if (take("position()")) {
            return (node, position, last) -> (long) position;
        }
        if (take("last()")) {
            return (node, position, last) -> (long) last;
        }
        if (take("count(")) {
            need(nested < 4);
            Expr path = path(nested + 1);
            need(take(")"));
            return (node, position, last) -> (long) nodes(path.at(node, position, last)).size();
        }
        if (take("not(")) {
            need(nested < 4);
            Expr inner = expr(nested + 1);
            need(take(")"));
            return (node, position, last) -> !isTrue(inner.at(node, position, last));
        }
        return path(nested);
    }

    private int nameEnd() {
        int end = at;
        if (at < text.length() && ModelText.isLetter(text.charAt(at))) {
            while (end < text.length() && ModelText.isInName(text.charAt(end))) {
                end++;
            }
        }
        return end;
    }

    private String name() {
        int end = nameEnd();
        need(end > at);
        String name = text.substring(at, end);
        at = end;
        return name;
    }

    private boolean comes(String word) {
        return text.startsWith(word, at);
    }

    private boolean take(String word) {
        boolean comes = comes(word);
        at += comes ? word.length() : 0;
        return comes;
    }

    private void need(boolean right) {
        if (!right) {
            throw new IllegalArgumentException();
        }
    }

    private List<ModelNode> given(Step step, ModelNode from) {
        List<ModelNode> left = new ArrayList<>();
        for (ModelNode node : axis(step.axis, from)) {
            work++;
            if (step.test.passes(node)) {
                left.add(node);
            }
        }
        if (work > 3000000) {
            throw new TooDear();
        }
        left = inOrder(left);
        if (BACKWARD.contains(step.axis)) {
            Collections.reverse(left);
        }
        for (Expr predicate : step.predicates) {
            List<ModelNode> passed = new ArrayList<>();
            for (int i = 0; i < left.size(); i++) {
                Object value = predicate.at(left.get(i), i + 1, left.size());
                boolean isNumber = value == NONE || value instanceof Long;
                if (isNumber ? value.equals((long) i + 1) : isTrue(value)) {
                    passed.add(left.get(i));
                }
            }
            left = passed;
        }
        return left;
    }

    private List<ModelNode> axis(String axis, ModelNode from) {
        List<ModelNode> nodes = new ArrayList<>();
        switch (axis) {
            case "child":
                return from.children;
            case "attribute":
                return from.attributes;
            case "self":
                return List.of(from);
            case "parent":
                return from.parent == null ? nodes : List.of(from.parent);
            case "ancestor":
                return from.ancestors();
            case "ancestor-or-self":
                nodes.addAll(from.ancestors());
                nodes.add(from);
                return nodes;
            case "descendant":
            case "descendant-or-self":
                addDescendants(from, nodes);
                if (axis.endsWith("self")) {
                    nodes.add(from);
                }
                return nodes;
            case "following-sibling":
            case "preceding-sibling":
                return siblings(from, axis.startsWith("following"));
            default:
                return around(from, axis.equals("following"));
        }
    }

    private static void addDescendants(ModelNode from, List<ModelNode> nodes) {
        for (ModelNode child : from.children) {
            nodes.add(child);
            addDescendants(child, nodes);
        }
    }

    private static List<ModelNode> siblings(ModelNode from, boolean behind) {
        if (from.parent == null || from.kind == ModelNode.ATTRIBUTE) {
            return List.of();
        }
        List<ModelNode> children = from.parent.children;
        int i = children.indexOf(from);
        return behind ? children.subList(i + 1, children.size()) : children.subList(0, i);
    }

    private List<ModelNode> around(ModelNode from, boolean behind) {
        int i = order.indexOf(from);
        List<ModelNode> nodes = new ArrayList<>(behind ? order.subList(i + 1, order.size()) : order.subList(0, i));
        nodes.removeIf(node -> node.kind == ModelNode.ATTRIBUTE);
        nodes.removeAll(behind ? from.all() : from.ancestors());
        return nodes;
    }

    private List<ModelNode> inOrder(Iterable<ModelNode> set) {
        TreeMap<Integer, ModelNode> sorted = new TreeMap<>();
        set.forEach(node -> sorted.put(order.indexOf(node), node));
        return new ArrayList<>(sorted.values());
    }

    @SuppressWarnings("unchecked")
    private static List<ModelNode> nodes(Object value) {
        return (List<ModelNode>) value;
    }

    private static boolean isTrue(Object value) {
        if (value instanceof Boolean truth) {
            return truth;
        }
        if (value instanceof String literal) {
            return !literal.isEmpty();
        }
        if (value instanceof Long number) {
            return number != 0;
        }
        return value != NONE && !nodes(value).isEmpty();
    }

    private static Object number(Object value) {
        if (value instanceof String literal) {
            return literal.matches("[ \n]*-?[0-9]{1,9}[ \n]*") ? (Object) Long.parseLong(literal.replaceAll("[ \n]", "")) : NONE;
        }
        if (value instanceof Boolean truth) {
            return truth ? 1L : 0L;
        }
        if (value instanceof Long || value == NONE) {
            return value;
        }
        return nodes(value).isEmpty() ? NONE : number(nodes(value).get(0).value());
    }

    private static boolean compare(String sign, Object left, Object right) {
        boolean leftSet = left instanceof List;
        boolean rightSet = right instanceof List;
        if (leftSet && right instanceof Boolean || rightSet && left instanceof Boolean) {
            return compareOthers(sign, isTrue(left), isTrue(right));
        }
        if (leftSet) {
            return nodes(left).stream().anyMatch(node -> compare(sign, node.value(), right));
        }
        if (rightSet) {
            return nodes(right).stream().anyMatch(node -> compare(sign, left, node.value()));
        }
        return compareOthers(sign, left, right);
    }

    private static boolean compareOthers(String sign, Object left, Object right) {
        if (sign.equals("<") || sign.equals(">")) {
            Object a = number(left);
            Object b = number(right);
            return a != NONE && b != NONE && (sign.equals("<") ? (Long) a < (Long) b : (Long) a > (Long) b);
        }
        boolean same;
        if (left instanceof Boolean || right instanceof Boolean) {
            same = isTrue(left) == isTrue(right);
        } else if (left instanceof String && right instanceof String) {
            same = left.equals(right);
        } else {
            same = number(left) != NONE && number(left).equals(number(right));
        }
        return same == sign.equals("=");
    }
}
