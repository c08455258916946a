import java.io.StringReader;
import java.util.ArrayList;
import java.util.List;
import javax.xml.parsers.DocumentBuilder;
import javax.xml.parsers.DocumentBuilderFactory;
import javax.xml.xpath.XPath;
import javax.xml.xpath.XPathConstants;
import javax.xml.xpath.XPathExpressionException;
import javax.xml.xpath.XPathFactory;
import org.w3c.dom.Document;
import org.w3c.dom.NamedNodeMap;
import org.w3c.dom.Node;
import org.w3c.dom.NodeList;
import org.xml.sax.ErrorHandler;
import org.xml.sax.InputSource;
import org.xml.sax.SAXParseException;

/**
 * Documents, changes and paths made by a fixed rule, with the answers that the JDK's own parser,
 * tree and paths give: where texts and paths keep to what both know, they must agree.
 */
public final class AgainstJdkTest {
    private static final String[] AXES = {
        "child", "descendant", "parent", "ancestor", "self", "attribute", "following-sibling", "preceding-sibling",
        "following", "preceding", "descendant-or-self", "ancestor-or-self" };
    // What the JDK misreads is written otherwise for it.
    private static final String ROOT = "\u0001";
    private static final String MINUS = "\u0002";
    private static final String HERE = "\u0003";
    private static final String NUMBER = "\u0004";
    private static final String TOP = "\u0005";
    private static final String[] TEXTS = { "1", "2", "3", "-1", " 2 ", "x", "y z", "1x", "&lt;", "&amp;", "12", "&quot;", "-", "&gt;&apos;" };

    private final DocumentBuilder builder;
    private final XPath paths = XPathFactory.newInstance().newXPath();
    private long seed;

    private AgainstJdkTest(long seed) throws Exception {
        this.seed = seed;
        builder = DocumentBuilderFactory.newInstance().newDocumentBuilder();
        builder.setErrorHandler(new Silent());
    }

    public static void main(String[] args) throws Exception {
        int rounds = args.length > 0 ? Integer.parseInt(args[0]) : 1500;
        long seed = args.length > 1 ? Long.parseLong(args[1]) : 1;
        AgainstJdkTest test = new AgainstJdkTest(seed);
        for (int round = 0; round < rounds; round++) {
            test.changesAndPaths();
            test.spoiltTexts();
        }
        System.out.println(test.asked + " paths, " + test.found + " gave nodes, " + test.changed + " changes, "
            + test.taken + " spoilt texts taken, " + test.refused + " refused");
        Run.due("paths that gave nodes", test.found > rounds, true);
        Run.due("changes", test.changed > rounds, true);
        Run.end("AgainstJdkTest");
    }

    // Whether the expr, sum or value made last is a number.
    private boolean isNumber;
    private int asked;
    private int found;
    private int changed;
    private int taken;
    private int refused;

    private void changesAndPaths() throws Exception {
        String text = documentText();
        Run run = new Run();
        Document document = parse(text);
        List<Node> nodes = numbered(document);
        boolean fits = text.length() <= 120 && nodes.size() <= 30 && depth(document) <= 8;
        if (!fits) {
            return;
        }
        Run.due("load " + text, run.load(text), nodes.size());
        same(run, document, text);
        for (int turn = 0; turn < 8; turn++) {
            ask(run, document);
            ask(run, document);
            change(run, document);
            same(run, document, text);
        }
    }

    private void ask(Run run, Document document) throws Exception {
        String made = path(0);
        String path = made.replace(ROOT, "/").replace(MINUS, "-").replace(HERE, "").replace(NUMBER, "").replace(TOP, "");
        List<Node> nodes = numbered(document);
        int p = pick(nodes.size());
        if (path.length() > 120 || isMisread(path, document, nodes.get(p))) {
            return;
        }
        NodeList given;
        try {
            String written = made.replace(ROOT, "/self::node()").replace(MINUS, " - ")
                .replace(HERE, "(.)/").replace(NUMBER, "position()=").replace(TOP, "(/)");
            given = (NodeList) paths.evaluate(written, nodes.get(p), XPathConstants.NODESET);
        } catch (XPathExpressionException e) {
            Run.due("the JDK about " + path, e.getMessage().contains("Too many"), true);
            return;
        }
        boolean[] isGiven = new boolean[nodes.size()];
        for (int i = 0; i < given.getLength(); i++) {
            isGiven[indexOf(nodes, given.item(i))] = true;
        }
        StringBuilder due = new StringBuilder();
        for (int i = 0; i < isGiven.length; i++) {
            due.append(isGiven[i] ? " " + i : "");
        }
        asked++;
        found += given.getLength() > 0 ? 1 : 0;
        Run.due("query " + path + " from " + p + " of " + run.print(), run.query(path, p), due);
    }

    /**
     * The JDK goes wrong on preceding:: with nodes outside of the document's element, on siblings of
     * attributes, and on a predicate with last() before another one.
     */
    private static boolean isMisread(String path, Document document, Node from) {
        boolean attributes = from.getNodeType() == Node.ATTRIBUTE_NODE || path.contains("@") || path.contains("attribute");
        return (path.contains("preceding::") && document.getChildNodes().getLength() > 1)
            || (path.contains("-sibling") && attributes)
            || (path.contains("][") && path.contains("last()"));
    }

    private void change(Run run, Document document) throws Exception {
        List<Node> nodes = numbered(document);
        int p = pick(nodes.size());
        Node node = nodes.get(p);
        switch (pick(3)) {
            case 0:
                changeByDelete(run, document, nodes, p);
                break;
            case 1:
                if (node.getNodeType() == Node.ELEMENT_NODE) {
                    String name = name();
                    Run.due("rename " + p, run.rename(name, p), name.length());
                    document.renameNode(node, null, name);
                    changed++;
                }
                break;
            default:
                changeByInsert(run, document, nodes, p);
                break;
        }
    }

    private void changeByDelete(Run run, Document document, List<Node> nodes, int p) {
        Node node = nodes.get(p);
        if (node == document || node == document.getDocumentElement()) {
            Run.due("delete " + p, run.delete(p), "throws.IllegalStateException");
            return;
        }
        if (node.getNodeType() == Node.ATTRIBUTE_NODE) {
            ((org.w3c.dom.Attr) node).getOwnerElement().removeAttribute(node.getNodeName());
        } else {
            node.getParentNode().removeChild(node);
        }
        document.normalize();
        Run.due("delete " + p, run.delete(p), nodes.size() - numbered(document).size());
        changed++;
    }

    private void changeByInsert(Run run, Document document, List<Node> nodes, int p) throws Exception {
        Node node = nodes.get(p);
        int where = pick(4);
        boolean isText = pick(2) == 0;
        String piece = isText ? TEXTS[pick(TEXTS.length)] : pick(4) == 0 ? "<!--" + name() + "-->" : elementText(1);
        boolean attribute = node.getNodeType() == Node.ATTRIBUTE_NODE;
        boolean element = node.getNodeType() == Node.ELEMENT_NODE;
        boolean isPlace = where < 2 ? element
            : !attribute && node.getParentNode() != null && node.getParentNode().getNodeType() == Node.ELEMENT_NODE;
        if (piece.length() > 120) {
            return;
        }
        String answer = run.insert(piece, p, where);
        String call = "insert " + piece + " at " + p + ", " + where;
        if (!isPlace) {
            Run.due(call, answer, "throws.IndexOutOfBoundsException");
            return;
        }
        Node wrapped = parse("<w>" + piece + "</w>").getDocumentElement().getFirstChild();
        Node added = document.importNode(wrapped, true);
        Node parent = where < 2 ? node : node.getParentNode();
        Node before = where == 0 ? node.getFirstChild() : where == 1 ? null : where == 2 ? node : node.getNextSibling();
        int more = count(added);
        if (nodes.size() + more > 30 || depth(added) + level(parent) > 8) {
            Run.due(call, answer, "throws.IllegalStateException");
            return;
        }
        Node prior = before == null ? parent.getLastChild() : before.getPreviousSibling();
        parent.insertBefore(added, before);
        document.normalize();
        boolean joinsPrior = isText && prior != null && prior.getNodeType() == Node.TEXT_NODE;
        Run.due(call, answer, indexOf(numbered(document), joinsPrior ? prior : added));
        changed++;
    }

    /** A text with a character changed, put in or left out: the same ones are taken, with the same nodes. */
    private void spoiltTexts() throws Exception {
        String text = documentText();
        for (int turn = 0; turn < 6; turn++) {
            int at = pick(text.length());
            char c = "<>/=\"'&;!-? abx1D["  .charAt(pick(18));
            String spoilt = text.substring(0, at) + (pick(3) == 0 ? "" : String.valueOf(c)) + text.substring(at + pick(2));
            // The JDK takes blanks round an attribute's = too.
            if (spoilt.length() > 120 || spoilt.contains(" =") || spoilt.contains("= ")) {
                continue;
            }
            Run run = new Run();
            String answer = run.load(spoilt);
            boolean other = spoilt.contains("<?") || spoilt.contains("<!D") || spoilt.contains("<![");
            Document document = parseOrNull(spoilt);
            if (document == null) {
                refused++;
                boolean allowed = answer.equals("throws.IllegalArgumentException") || answer.equals("throws.IllegalStateException")
                    || (other && answer.equals("throws.UnsupportedOperationException"));
                Run.due("refusal of " + spoilt, allowed ? "refused" : answer, "refused");
                Run.due("nodes after it", run.store.nodes(), 1);
            } else if (!other && numbered(document).size() <= 30 && depth(document) <= 8) {
                taken++;
                Run.due("load " + spoilt, answer, numbered(document).size());
                samePrinted(run, document, spoilt);
            }
        }
    }

    private void same(Run run, Document document, String text) throws Exception {
        Run.due("nodes of " + text, run.all(), all(document));
        samePrinted(run, document, text);
    }

    private void samePrinted(Run run, Document document, String text) throws Exception {
        String printed = run.print();
        Run.due("print of " + text, all(parse(printed)), all(document));
    }

    private static String all(Document document) {
        StringBuilder all = new StringBuilder();
        for (Node node : numbered(document)) {
            int kind = kind(node);
            all.append(kind).append(',').append(level(node)).append(',').append(count(node) - 1);
            all.append(',').append(kind == 1 || kind == 2 ? node.getNodeName() : "");
            all.append(',').append(kind == 0 ? document.getDocumentElement().getTextContent() : node.getTextContent()).append(';');
        }
        return all.toString();
    }

    private static int kind(Node node) {
        switch (node.getNodeType()) {
            case Node.DOCUMENT_NODE: return 0;
            case Node.ELEMENT_NODE: return 1;
            case Node.ATTRIBUTE_NODE: return 2;
            case Node.TEXT_NODE: return 3;
            default: return 4;
        }
    }

    private static int level(Node node) {
        int level = 0;
        for (Node up = node; up.getNodeType() != Node.DOCUMENT_NODE; level++) {
            up = up.getNodeType() == Node.ATTRIBUTE_NODE ? ((org.w3c.dom.Attr) up).getOwnerElement() : up.getParentNode();
        }
        return level;
    }

    private static int depth(Node node) {
        int below = 0;
        for (Node child = node.getFirstChild(); child != null; child = child.getNextSibling()) {
            below = Math.max(below, depth(child));
        }
        return below + (node.getNodeType() == Node.ELEMENT_NODE ? 1 : 0);
    }

    private static int count(Node node) {
        List<Node> nodes = new ArrayList<>();
        number(node, nodes);
        return nodes.size();
    }

    private static List<Node> numbered(Document document) {
        List<Node> nodes = new ArrayList<>();
        number(document, nodes);
        return nodes;
    }

    private static void number(Node node, List<Node> nodes) {
        nodes.add(node);
        if (node.getNodeType() == Node.ATTRIBUTE_NODE) {
            return;
        }
        NamedNodeMap attributes = node.getAttributes();
        for (int i = 0; attributes != null && i < attributes.getLength(); i++) {
            nodes.add(attributes.item(i));
        }
        for (Node child = node.getFirstChild(); child != null; child = child.getNextSibling()) {
            number(child, nodes);
        }
    }

    private static int indexOf(List<Node> nodes, Node node) {
        for (int i = 0; i < nodes.size(); i++) {
            if (nodes.get(i) == node) {
                return i;
            }
        }
        return -1;
    }

    private Document parse(String text) throws Exception {
        Document document = builder.parse(new InputSource(new StringReader(text)));
        document.normalize();
        return document;
    }

    private Document parseOrNull(String text) {
        try {
            return parse(text);
        } catch (Exception e) {
            return null;
        }
    }

    private String documentText() {
        return outside() + elementText(0) + outside();
    }

    private String outside() {
        return pick(5) > 0 ? "" : pick(2) > 0 ? "<!--" + name() + "-->" : " <!---" + name() + " & < -->\n";
    }

    // The JDK keeps attributes by their names' order, so they are made in this order.
    private String elementText(int depth) {
        String name = name();
        StringBuilder text = new StringBuilder("<" + name);
        for (String attribute : new String[] { "a", "b", "x" }) {
            if (pick(5) == 0) {
                String quote = pick(2) == 0 ? "\"" : "'";
                text.append(" ").append(attribute).append("=").append(quote).append(TEXTS[pick(TEXTS.length)]).append(quote);
            }
        }
        text.append(pick(4) == 0 ? " " : "");
        int parts = depth > 8 ? 0 : pick(depth > 2 ? 3 : 5);
        if (parts == 0 && pick(2) == 0) {
            return text.append("/>").toString();
        }
        text.append(">");
        for (int i = 0; i < parts; i++) {
            int sort = pick(9);
            text.append(sort < 4 ? TEXTS[pick(TEXTS.length)] : sort == 4 ? "<!--" + name() + "-->" : elementText(depth + 1));
        }
        return text.append("</").append(name).append(">").toString();
    }

    private String name() {
        return String.valueOf("abc".charAt(pick(3)));
    }

    private String path(int nested) {
        int sort = pick(8);
        if (sort == 0) {
            return ROOT;
        }
        StringBuilder path = new StringBuilder(sort == 1 ? TOP + "/" : sort < 5 ? TOP + "//" : HERE);
        path.append(step(nested));
        for (int more = pick(3); more > 0; more--) {
            path.append(pick(4) == 0 ? "//" : "/").append(step(nested));
        }
        return path.toString();
    }

    private String step(int nested) {
        int sort = pick(12);
        if (sort == 0) {
            return ".";
        }
        if (sort == 1) {
            return "..";
        }
        StringBuilder step = new StringBuilder(sort < 5 ? "" : sort < 7 ? "@" : AXES[pick(AXES.length)] + "::");
        String[] tests = { name(), "*", "*", "node()", "node()", "text()", "comment()", "x" };
        step.append(tests[pick(tests.length)]);
        while (nested < 4 && pick(3) == 0) {
            String expr = expr(nested + 1);
            step.append("[").append(isNumber ? NUMBER : "").append(expr).append("]");
        }
        return step.toString();
    }

    private String expr(int nested) {
        String[] signs = { "=", "!=", "<", ">" };
        if (pick(2) == 0) {
            return sum(nested);
        }
        String both = sum(nested) + signs[pick(4)] + sum(nested);
        isNumber = false;
        return both;
    }

    private String sum(int nested) {
        StringBuilder sum = new StringBuilder(value(nested));
        boolean numbers = isNumber;
        while (pick(5) == 0) {
            numbers = true;
            // Behind a name a - would belong to it.
            char last = sum.charAt(sum.length() - 1);
            boolean minus = pick(2) == 0 && !Character.isLetter(last);
            sum.append(minus ? MINUS : "+").append(value(nested));
        }
        isNumber = numbers;
        return sum.toString();
    }

    private String value(int nested) {
        int sort = pick(nested < 4 ? 10 : 8);
        String value = value(nested, sort);
        isNumber = sort == 0 || sort == 2 || sort == 3 || sort == 8;
        return value;
    }

    private String value(int nested, int sort) {
        switch (sort) {
            case 0: return String.valueOf(pick(4));
            case 1: return "'" + new String[] { "", "1", "2", " 2 ", "x", "y z", "-1" }[pick(7)] + "'";
            case 2: return "position()";
            case 3: return "last()";
            case 8: return "count(" + path(nested + 1) + ")";
            case 9: return "not(" + expr(nested + 1) + ")";
            default: return path(nested);
        }
    }

    private int pick(int n) {
        seed = seed * 6364136223846793005L + 1442695040888963407L;
        return (int) ((seed >>> 33) % n);
    }

    private static final class Silent implements ErrorHandler {
        @Override
        public void warning(SAXParseException e) {
        }

        @Override
        public void error(SAXParseException e) throws SAXParseException {
            throw e;
        }

        @Override
        public void fatalError(SAXParseException e) throws SAXParseException {
            throw e;
        }
    }
}
