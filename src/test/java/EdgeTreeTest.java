/** The edges of promises 11 to 15; above each method stands the sentence it tests. */
public final class EdgeTreeTest {
    private static final int NONE = MarkupSieve.NONE;
    private static final int MIN = Integer.MIN_VALUE, MAX = Integer.MAX_VALUE;
    private static final int[] NO_NODES = {
        MIN, MIN + 1, -256, -200, -2, -1, 200, 201, 256, 1 << 16, 1 << 30, MAX - 1, MAX
    };
    private static final int[] NO_LETTERS = {
        MIN, MIN + 2, -32, -30, -26, -24, -2, -1, 26, 27, 28, 32, 34, 99, 256, 258, 1 << 30, MAX - 1, MAX
    };
    /** Those near a power of two would be within a text if 8 * k wrapped around. */
    private static final int[] FAR = {
        MIN, MIN + 1, -(1 << 30), -(1 << 29) - 1, -(1 << 29), -(1 << 29) + 1, -(1 << 28), -26, -2, -1, 26, 27, 200,
        (1 << 28) - 1, 1 << 28, (1 << 29) - 1, 1 << 29, (1 << 29) + 1, 1 << 30, (1 << 30) + 1, MAX - 1, MAX
    };

    private EdgeTreeTest() {}

    public static void main(String[] args) {
        nodesOfNone();
        numberOfNodes();
        orderOfNodes();
        treeOfTheFirstRound();
        treeOfTheLatest();
        noNode();
        lettersOfNodes();
        depthsOfNodes();
        foreignNodes();
        textOfEachSize();
        commentOfEachSize();
        textBeyond();
        noText();
        textsApart();
        lengths();
        noLength();
        valueOfEachSize();
        valueBeyond();
        noValue();
        noneOfAll();
        valuesApart();
        Check.finish();
    }

    private static String some(int size) {
        StringBuilder some = new StringBuilder();
        for (int i = 0; i < size; i++) {
            some.append((char) ('a' + i % 25));
        }
        return some.toString();
    }

    /** "How many nodes ... the root not counted": none of a new object, an empty input, cut ones. */
    private static void nodesOfNone() {
        Check.same("nodes of a new object", new Sieve().nodes(), 0);
        for (String input : new String[] {"", "<b", "</b>", "</b", "<b c='>", "</xx></n>"}) {
            Check.same("nodes of " + input, Sieves.cleaned(input).nodes(), 0);
        }
        Sieve sieve = new Sieve();
        sieve.put('x');
        Check.same("nodes before clean", sieve.nodes(), 0);
        Check.same("node before clean", sieve.node(0), NONE);
    }

    /** One, two, and as many as 200 characters can be read into: 50 texts and 50 others. */
    private static void numberOfNodes() {
        Check.same("a text", Sieves.cleaned("x").nodes(), 1);
        Check.same("a comment", Sieves.cleaned("<!").nodes(), 1);
        Check.same("an element", Sieves.cleaned("<b>").nodes(), 1);
        Check.same("two", Sieves.cleaned("x<b>").nodes(), 2);
        Check.same("texts that are joined", Sieves.cleaned("x</b>y").nodes(), 1);
        for (String two : new String[] {"x<n>", "x<!>", "x</>", "<!>x"}) {
            Sieve sieve = Sieves.cleaned(two.repeat(50));
            Check.same("nodes of " + two, sieve.nodes(), 100);
            for (int i = 0; i < 100; i++) {
                boolean text = two.startsWith("x") == (i % 2 == 0);
                Check.same("kind of node " + i, sieve.node(i) % 4 == MarkupSieve.TEXT, text);
            }
            Check.same("the one before", sieve.node(-1), NONE);
            Check.same("the one behind", sieve.node(100), NONE);
        }
        Check.same("nodes of 199", Sieves.cleaned("x<!>".repeat(49) + "x<!").nodes(), 100);
        Check.same("nodes of </p>", Sieves.cleaned("</p>".repeat(50)).nodes(), 50);
        Check.same("nodes of many STARTs", Sieves.cleaned("<b>".repeat(66)).nodes(), 8);
        Check.same("nodes of n", Sieves.cleaned("<n>".repeat(66)).nodes(), 66);
    }

    /** "counted from 0 in the order in which they begin": a parent before its children. */
    private static void orderOfNodes() {
        Sieve sieve = Sieves.cleaned("<b><i>x</i><!y></b><k>z");
        int[] kinds = {3, 3, 1, 2, 3, 1};
        int[] depths = {0, 1, 2, 1, 0, 1};
        for (int i = 0; i < kinds.length; i++) {
            Check.same("kind of " + i, sieve.node(i) % 4, kinds[i]);
            Check.same("depth of " + i, sieve.node(i) % 4096 / 128, depths[i]);
        }
        Check.same("nodes", sieve.nodes(), kinds.length);
    }

    /** "the tree of the first round", of one, two and three, and of one that was rejected. */
    private static void treeOfTheFirstRound() {
        String[] inputs = {"<a>1</a>", "<A>1</a>", "<a>1<v><a>2", "<a>" + "&".repeat(41), "1<!2>3<i>4"};
        String[] trees = {"a('1')", "a('1')", "a('1' *v(*a('2')))", "a('" + "&".repeat(41) + "')", "'1' !2! '3' i('4')"};
        Sieve sieve = Sieves.keeping("a");
        for (int i = 0; i < inputs.length; i++) {
            Sieves.feed(sieve, inputs[i]);
            sieve.clean();
            Check.same("tree of " + inputs[i], Sieves.drawTree(sieve), trees[i]);
        }
    }

    /** "of the latest clean()": whatever was called after it, and nothing of those before it. */
    private static void treeOfTheLatest() {
        Sieve sieve = Sieves.cleaned("<b c='" + some(50) + "'>" + some(50) + "<i>x");
        String tree = Sieves.drawTree(sieve);
        sieve.wipe();
        sieve.put('y');
        sieve.reset();
        Sieves.act(sieve, MarkupSieve.DROP, "b");
        Check.same("tree before clean", Sieves.drawTree(sieve), tree);
        sieve.clean();
        Check.same("tree behind clean", Sieves.drawTree(sieve), "'y'");
        Check.same("node 1", sieve.node(1), NONE);
        Check.same("text 1", sieve.text(1, 0), 0L);
        Check.same("rest of text 0", sieve.text(0, 1), 0L);
        Check.same("length 0", sieve.length(0, 2), NONE);
        sieve.wipe();
        sieve.clean();
        Check.same("nodes of nothing", sieve.nodes(), 0);
        Check.same("node 0 of nothing", sieve.node(0), NONE);
        Check.same("text 0 of nothing", sieve.text(0, 0), 0L);
    }

    /** "NONE if there is none": before the first, behind the last, smallest and largest int. */
    private static void noNode() {
        Sieve sieve = Sieves.cleaned("x<b>");
        Check.same("the first", sieve.node(0), 1);
        Check.same("the last", sieve.node(1), 3 + 4);
        Check.same("behind it", sieve.node(2), NONE);
        for (int i : NO_NODES) {
            Check.same("node " + i, sieve.node(i), NONE);
        }
    }

    /** "4 times the letter (26 for the unknown name, 0 if it is no element)": each letter. */
    private static void lettersOfNodes() {
        for (char c = 'a'; c <= 'z'; c++) {
            int due = 3 + 4 * (c - 'a') + (c == 'v' ? 4096 : 0);
            Check.same("node of " + c, Sieves.cleaned("<" + c + ">").node(0), due);
            Check.same("node of " + c, Sieves.cleaned("<" + Character.toUpperCase(c) + ">").node(0), due);
        }
        Check.same("unknown", Sieves.cleaned("<aa>").node(0), 3 + 4 * 26);
        Check.same("unknown", Sieves.cleaned("<zzzz>").node(0), 3 + 4 * 26);
        Check.same("text", Sieves.cleaned("z").node(0), 1);
        Check.same("comment", Sieves.cleaned("<!z").node(0), 2);
    }

    /** "128 times its depth (0 for children of the root)": up to eight, deeper is nothing. */
    private static void depthsOfNodes() {
        for (int depth = 0; depth <= 8; depth++) {
            String starts = "<k>".repeat(depth);
            Check.same("text at " + depth, Sieves.cleaned(starts + "x").node(depth), 1 + 128 * depth);
            Check.same("comment at " + depth, Sieves.cleaned(starts + "<!").node(depth), 2 + 128 * depth);
            int empty = 3 + 4 * 13 + 128 * depth;
            Check.same("n at " + depth, Sieves.cleaned(starts + "<n>").node(depth), empty);
            int element = depth < 8 ? 3 + 4 * 10 + 128 * depth : NONE;
            Check.same("k at " + depth, Sieves.cleaned(starts + "<k>").node(depth), element);
            int foreign = depth < 8 ? 3 + 4 * 21 + 128 * depth + 4096 : NONE;
            Check.same("v at " + depth, Sieves.cleaned(starts + "<v>").node(depth), foreign);
        }
        Check.same("text behind a ninth k", Sieves.cleaned("<k>".repeat(9) + "x").node(8), 1 + 128 * 8);
    }

    /** "4096 if it is foreign": elements alone, whatever their texts and comments lie in. */
    private static void foreignNodes() {
        Sieve sieve = Sieves.cleaned("<v>x<!y><b>z<f><b><zz></v>");
        Check.same("v", sieve.node(0), 3 + 4 * 21 + 4096);
        Check.same("text in v", sieve.node(1), 1 + 128);
        Check.same("comment in v", sieve.node(2), 2 + 128);
        Check.same("b in v", sieve.node(3), 3 + 4 + 128 + 4096);
        Check.same("text in b", sieve.node(4), 1 + 2 * 128);
        Check.same("f in b", sieve.node(5), 3 + 4 * 5 + 2 * 128 + 4096);
        Check.same("b in f", sieve.node(6), 3 + 4 + 3 * 128);
        Check.same("unknown in b", sieve.node(7), 3 + 4 * 26 + 4 * 128);
        Check.same("foreign unknown", Sieves.cleaned("<v><zz>").node(1), 3 + 4 * 26 + 128 + 4096);
        Sieve deep = Sieves.cleaned("<v>".repeat(7) + "<z>");
        Check.same("the largest that is not unknown", deep.node(7), 3 + 4 * 25 + 7 * 128 + 4096);
    }

    /** "Eight characters of the text of a text ... from 8 * k on, as in output()": each size. */
    private static void textOfEachSize() {
        for (int size = 1; size <= 200; size++) {
            Sieve sieve = Sieves.cleaned(some(size));
            for (int k = -2; k <= 27; k++) {
                Check.same("text 0, " + k + " of " + size, sieve.text(0, k), Sieves.eightOf(some(size), k));
            }
        }
    }

    /** The same of a comment: from none to 198 characters. */
    private static void commentOfEachSize() {
        for (int size = 0; size <= 198; size++) {
            Sieve sieve = Sieves.cleaned("<!" + some(size));
            for (int k = -2; k <= 27; k++) {
                Check.same("text 0, " + k + " of " + size, sieve.text(0, k), Sieves.eightOf(some(size), k));
            }
        }
    }

    /** "as in output()": 0 where there is none, also where 8 * k would wrap around. */
    private static void textBeyond() {
        Sieve sieve = Sieves.cleaned(some(9) + "<!" + some(17));
        for (int k : FAR) {
            Check.same("text 0, " + k, sieve.text(0, k), 0L);
            Check.same("text 1, " + k, sieve.text(1, k), 0L);
        }
        Sieve full = Sieves.cleaned(some(200));
        for (int k : FAR) {
            Check.same("text 0, " + k + " of 200", full.text(0, k), 0L);
        }
    }

    /** "0 if it is none": an element, no node, smallest and largest int. */
    private static void noText() {
        Sieve sieve = Sieves.cleaned("<b c=d e=f>x<n><i>");
        for (int k = -1; k <= 25; k++) {
            Check.same("text of an element", sieve.text(0, k), 0L);
            Check.same("text of n", sieve.text(2, k), 0L);
        }
        Check.same("text of the last", sieve.text(3, 0), 0L);
        Check.same("text behind it", sieve.text(4, 0), 0L);
        for (int i : NO_NODES) {
            Check.same("text " + i, sieve.text(i, 0), 0L);
            Check.same("text " + i + ", 1", sieve.text(i, 1), 0L);
        }
        Check.same("text of the text", sieve.text(1, 0), Sieves.pack("x"));
    }

    /** Each text ends where it ends: the next one is not read on into. */
    private static void textsApart() {
        for (int size = 1; size <= 17; size++) {
            Sieve sieve = Sieves.cleaned(some(size) + "<!" + some(size) + "><b>" + some(size));
            for (int i : new int[] {0, 1, 3}) {
                for (int k = 0; k <= 3; k++) {
                    Check.same("text " + i + ", " + k, sieve.text(i, k), Sieves.eightOf(some(size), k));
                }
            }
        }
    }

    /** "How many characters the value of attribute a of element i has": from none to 194. */
    private static void lengths() {
        for (int size = 0; size <= 194; size++) {
            Sieve sieve = Sieves.cleaned("<b c=" + some(size) + ">");
            Check.same("length of " + size, sieve.length(0, 2), size);
        }
        for (int a = 0; a < 26; a++) {
            Sieve sieve = Sieves.cleaned("<b " + (char) ('a' + a) + "=xy>");
            for (int other = -1; other <= 26; other++) {
                Check.same("length 0, " + other, sieve.length(0, other), other == a ? 2 : NONE);
            }
        }
        Check.same("of what references give", Sieves.cleaned("<b c=&lt;&#65;&>").length(0, 2), 3);
        Check.same("of an unknown one", Sieves.cleaned("<bb c=1>").length(0, 2), 1);
        Check.same("of a foreign one", Sieves.cleaned("<v c=1>").length(0, 2), 1);
    }

    /** "NONE if it has none, or it is no element": also for what is no letter and no node. */
    private static void noLength() {
        Sieve sieve = Sieves.cleaned("x<b a=1 c=2 z=3>y<!z><i></i c=3>");
        for (int a : NO_LETTERS) {
            Check.same("length 1, " + a, sieve.length(1, a), NONE);
        }
        for (int i : NO_NODES) {
            Check.same("length " + i, sieve.length(i, 2), NONE);
        }
        for (int a = 0; a < 26; a++) {
            Check.same("length of a text", sieve.length(0, a), NONE);
            Check.same("length of a text in it", sieve.length(2, a), NONE);
            Check.same("length of a comment", sieve.length(3, a), NONE);
            Check.same("length of one without", sieve.length(4, a), NONE);
            Check.same("length behind the last", sieve.length(5, a), NONE);
        }
        Check.same("length of an empty value", Sieves.cleaned("<b c>").length(0, 2), 0);
        Check.same("length before clean", new Sieve().length(0, 2), NONE);
    }

    /** "Eight characters of that value from 8 * k on, as in output()": each size. */
    private static void valueOfEachSize() {
        for (int size = 0; size <= 194; size++) {
            Sieve sieve = Sieves.cleaned("<b c=" + some(size) + ">");
            for (int k = -2; k <= 27; k++) {
                Check.same("value " + k + " of " + size, sieve.value(0, 2, k), Sieves.eightOf(some(size), k));
            }
        }
    }

    /** "as in output()": 0 where there is none, also where 8 * k would wrap around. */
    private static void valueBeyond() {
        for (int size : new int[] {0, 1, 8, 17, 194}) {
            Sieve sieve = Sieves.cleaned("<b c=" + some(size) + ">");
            for (int k : FAR) {
                Check.same("value " + k + " of " + size, sieve.value(0, 2, k), 0L);
            }
        }
    }

    /** 0 too where there is no such value: no letter, no node, no element, no such attribute. */
    private static void noValue() {
        Sieve sieve = Sieves.cleaned("x<b a=1 c=2 z=3>y<!z><i>");
        for (int a : NO_LETTERS) {
            Check.same("value 1, " + a, sieve.value(1, a, 0), 0L);
        }
        for (int i : NO_NODES) {
            Check.same("value " + i, sieve.value(i, 2, 0), 0L);
        }
        for (int a = 0; a < 26; a++) {
            Check.same("value of a text", sieve.value(0, a, 0), 0L);
            Check.same("value of a text in it", sieve.value(2, a, 0), 0L);
            Check.same("value of a comment", sieve.value(3, a, 0), 0L);
            Check.same("value of one without", sieve.value(4, a, 0), 0L);
            Check.same("value behind the last", sieve.value(5, a, 0), 0L);
        }
        Check.same("value before clean", new Sieve().value(0, 2, 0), 0L);
    }

    /** What has no attributes has none of those of an element that has all 26. */
    private static void noneOfAll() {
        StringBuilder all = new StringBuilder("<b");
        for (char c = 'a'; c <= 'z'; c++) {
            all.append(' ').append(c).append('=').append(c);
        }
        Sieve sieve = Sieves.cleaned("<i>x<!y>" + all + "><k>");
        for (int a = 0; a < 26; a++) {
            for (int i : new int[] {-1, 0, 1, 2, 4, 5}) {
                Check.same("length " + i + ", " + a, sieve.length(i, a), NONE);
                Check.same("value " + i + ", " + a, sieve.value(i, a, 0), 0L);
            }
            Check.same("length 3, " + a, sieve.length(3, a), 1);
            Check.same("value 3, " + a, sieve.value(3, a, 0), (long) 'a' + a);
        }
        for (int a : NO_LETTERS) {
            Check.same("length 3, " + a, sieve.length(3, a), NONE);
            Check.same("value 3, " + a, sieve.value(3, a, 0), 0L);
        }
        Sieve behind = Sieves.cleaned("<i>x<!y>" + all + "><k>");
        for (int i : NO_NODES) {
            Check.same("length " + i, behind.length(i, 2), NONE);
            Check.same("value " + i, behind.value(i, 2, 0), 0L);
        }
    }

    /** Each value ends where it ends: the next one is not read on into. */
    private static void valuesApart() {
        for (int size = 0; size <= 17; size++) {
            String value = some(size);
            Sieve sieve = Sieves.cleaned("<b d='" + value + "' c='" + value + "'><i c='" + value + "'>" + value);
            for (int k = 0; k <= 3; k++) {
                long due = Sieves.eightOf(value, k);
                Check.same("value of c, " + k, sieve.value(0, 2, k), due);
                Check.same("value of d, " + k, sieve.value(0, 3, k), due);
                Check.same("value of the next element, " + k, sieve.value(1, 2, k), due);
            }
        }
    }
}
