import java.util.ArrayList;
import java.util.List;
import java.util.Map;
import java.util.Set;
import java.util.TreeMap;
import java.util.TreeSet;
import java.util.regex.Matcher;
import java.util.regex.Pattern;

/**
 * The document's terms said a second time, with strings, patterns and a tree of objects, so that
 * ModelTest can hold the program against a reading that shares none of its code.
 */
final class Model {
    static final class Node {
        final Node parent;
        final int kind;
        final int name;
        final boolean foreign;
        final Map<Integer, String> values = new TreeMap<>();
        final List<Node> children = new ArrayList<>();
        String text = "";

        Node(Node parent, int kind, int name, boolean foreign) {
            this.parent = parent;
            this.kind = kind;
            this.name = name;
            this.foreign = foreign;
        }
    }

    private static final Pattern COMMENT =
            Pattern.compile("\\G(?:<!--(.*?)(?:-->|$)|(?:<!|<\\?|</(?![a-zA-Z]))(.*?)(?:>|$))");
    private static final Pattern TAG = Pattern.compile(
            "\\G<(/?)([a-zA-Z]+)((?:[ /]|[^ />][^ />=]*+(?: *+= *+(?:\"[^\"]*+\"|'[^']*+'|(?![\"'])[^ >]*+)|(?! *+=)))*+)>");
    private static final Pattern ATTRIBUTE = Pattern.compile(
            "([^ />][^ />=]*+)(?: *+= *+(?:\"([^\"]*+)\"|'([^']*+)'|([^ >]*+)))?+");
    private static final Pattern TAG_BEGIN = Pattern.compile("\\G</?[a-zA-Z]");
    private static final Pattern RAW = Pattern.compile("\\G(.*?)(?:(?=</[sS](?:[ />]|$))|$)");
    private static final Pattern TEXT = Pattern.compile("\\G(?:[^<]|<(?![a-zA-Z!?/]))+");
    private static final Pattern REFERENCE = Pattern.compile("&(?:(lt|gt|amp|quot)|#([0-9]{1,3}));");
    private static final Pattern SCHEME = Pattern.compile("^ *([a-zA-Z][-a-zA-Z0-9+.]*):");

    final int[] actions = new int[26];
    final Map<Integer, Set<Integer>> may = new TreeMap<>();
    final Set<String> schemes = new TreeSet<>();

    final List<Node> firstNodes = new ArrayList<>();
    int rounds;
    /** What was cleaned last, null if it was rejected. */
    String output;

    private List<Node> open;
    private Node root;

    Model() {
        for (int letter = 0; letter < 26; letter++) {
            actions[letter] = letter == 's' - 'a' ? 2 : 1;
        }
    }

    void clean(String input) {
        String read = input;
        output = null;
        for (rounds = 1; rounds <= 6; rounds++) {
            Node tree = parse(read);
            if (rounds == 1) {
                firstNodes.clear();
                list(tree, firstNodes);
            }
            StringBuilder out = new StringBuilder();
            writeChildren(tree, out);
            if (out.length() > 200) {
                return;
            }
            if (out.toString().equals(read)) {
                output = read;
                return;
            }
            read = out.toString();
        }
        rounds = 6;
    }

    static int depth(Node node) {
        int depth = -1;
        for (Node up = node.parent; up != null; up = up.parent) {
            depth++;
        }
        return depth;
    }

    private static void list(Node node, List<Node> all) {
        for (Node child : node.children) {
            all.add(child);
            list(child, all);
        }
    }

    static String resolve(String piece) {
        return REFERENCE.matcher(piece).replaceAll(found -> {
            String what = found.group();
            if (found.group(1) != null) {
                what = Map.of("lt", "<", "gt", ">", "amp", "&", "quot", "\"").get(found.group(1));
            } else {
                int code = Integer.parseInt(found.group(2));
                what = code >= 32 && code <= 126 ? "" + (char) code : what;
            }
            return Matcher.quoteReplacement(what);
        });
    }

    private Node parse(String s) {
        root = new Node(null, 0, 0, false);
        open = new ArrayList<>();
        boolean rawDue = false;
        int at = 0;
        while (at < s.length()) {
            Matcher raw = RAW.matcher(s);
            Matcher comment = COMMENT.matcher(s);
            Matcher tag = TAG.matcher(s);
            Matcher text = TEXT.matcher(s);
            if (rawDue) {
                rawDue = false;
                raw.find(at);
                at = raw.end();
                if (!raw.group(1).isEmpty()) {
                    putText(raw.group(1));
                }
            } else if (comment.find(at)) {
                at = comment.end();
                Node node = put(2, 0, false);
                node.text = comment.group(1) != null ? comment.group(1) : comment.group(2);
            } else if (tag.find(at)) {
                at = tag.end();
                int name = tag.group(2).length() > 1 ? 26 : letter(tag.group(2));
                if (tag.group(1).isEmpty()) {
                    rawDue = start(name, attributes(tag.group(3)));
                } else {
                    end(name);
                }
            } else if (TAG_BEGIN.matcher(s).find(at)) {
                return root;
            } else {
                text.find(at);
                at = text.end();
                putText(resolve(text.group()));
            }
        }
        return root;
    }

    private static int letter(String one) {
        return one.toLowerCase().charAt(0) - 'a';
    }

    private static Map<Integer, String> attributes(String inside) {
        Map<Integer, String> found = new TreeMap<>();
        Matcher m = ATTRIBUTE.matcher(inside);
        while (m.find()) {
            String value = "";
            for (int group = 2; group <= 4; group++) {
                value = m.group(group) == null ? value : m.group(group);
            }
            if (m.group(1).matches("[a-zA-Z]")) {
                found.putIfAbsent(letter(m.group(1)), resolve(value));
            }
        }
        return found;
    }

    private Node last() {
        return open.isEmpty() ? root : open.get(open.size() - 1);
    }

    private Node put(int kind, int name, boolean foreign) {
        Node node = new Node(last(), kind, name, foreign);
        last().children.add(node);
        return node;
    }

    private void putText(String characters) {
        List<Node> before = last().children;
        Node previous = before.isEmpty() ? null : before.get(before.size() - 1);
        Node text = previous != null && previous.kind == 1 ? previous : put(1, 0, false);
        text.text += characters;
    }

    private boolean alien() {
        return !open.isEmpty() && last().foreign && last().name != 'f' - 'a';
    }

    private List<Node> scope() {
        List<Node> scope = new ArrayList<>();
        for (int i = open.size() - 1; i >= 0 && !open.get(i).foreign; i--) {
            scope.add(open.get(i));
        }
        return scope;
    }

    private List<Node> tail() {
        List<Node> tail = new ArrayList<>();
        for (int i = open.size() - 1; i >= 0 && open.get(i).foreign == last().foreign; i--) {
            tail.add(open.get(i));
        }
        return tail;
    }

    /** The lists of scope and tail have the last open element first. */
    private static Node lastOf(List<Node> elements, String names) {
        for (Node element : elements) {
            if (names.indexOf('a' + element.name) >= 0) {
                return element;
            }
        }
        return null;
    }

    private void close(Node element) {
        if (element != null) {
            open.subList(open.indexOf(element), open.size()).clear();
        }
    }

    private boolean start(int name, Map<Integer, String> attributes) {
        String letter = "" + (char) ('a' + name);
        boolean block = "dpul".contains(letter);
        while (block && alien()) {
            open.remove(open.size() - 1);
        }
        if (!alien()) {
            if (block) {
                close(lastOf(scope(), "p"));
            }
            if (letter.equals("l")) {
                Node nearest = lastOf(scope(), "lu");
                close(nearest != null && nearest.name == 'l' - 'a' ? nearest : null);
            }
            if (letter.equals("a")) {
                close(lastOf(scope(), "a"));
            }
        }
        boolean stays = !("nm".contains(letter) && !alien());
        if (stays && open.size() == 8) {
            return false;
        }
        boolean alien = alien();
        Node element = put(3, name, alien || letter.equals("v"));
        element.values.putAll(attributes);
        if (stays) {
            open.add(element);
        }
        return letter.equals("s") && !alien;
    }

    private void end(int name) {
        Node found = lastOf(tail(), "" + (char) ('a' + name));
        if (found != null) {
            close(found);
        } else if (name == 'p' - 'a' && !alien()) {
            List<Node> before = new ArrayList<>(open);
            start(name, Map.of());
            for (Node element : new ArrayList<>(open)) {
                if (!before.contains(element)) {
                    close(element);
                }
            }
        }
    }

    private void writeChildren(Node node, StringBuilder out) {
        for (Node child : node.children) {
            if (child.kind == 1) {
                out.append(child.text.replace("&", "&amp;").replace("<", "&lt;").replace(">", "&gt;"));
            } else if (child.kind == 3) {
                writeElement(child, out);
            }
        }
    }

    private void writeElement(Node element, StringBuilder out) {
        int action = element.name == 26 ? 1 : actions[element.name];
        if (action == 1) {
            writeChildren(element, out);
        }
        if (action != 0) {
            return;
        }
        char letter = (char) ('a' + element.name);
        out.append('<').append(letter);
        element.values.forEach((a, value) -> {
            if (keeps(element.name, a, value)) {
                out.append(' ').append((char) ('a' + a)).append("=\"");
                out.append(value.replace("&", "&amp;").replace("\"", "&quot;")).append('"');
            }
        });
        out.append('>');
        if (element.foreign || letter != 'n' && letter != 'm') {
            writeChildren(element, out);
            out.append("</").append(letter).append('>');
        }
    }

    private boolean keeps(int name, int a, String value) {
        boolean allowed = may.getOrDefault(name, Set.of()).contains(a)
                || may.getOrDefault(-1, Set.of()).contains(a);
        if (allowed && (a == 'h' - 'a' || a == 'r' - 'a')) {
            Matcher scheme = SCHEME.matcher(value);
            allowed = !scheme.find() || schemes.contains(scheme.group(1).toLowerCase());
        }
        return allowed;
    }
}
