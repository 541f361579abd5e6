/** Promises 11 to 15: nodes, node, text, length and value. */
public final class TreeTest {
    private static final int B = 'b' - 'a', V = 'v' - 'a', N = 'n' - 'a';
    private static final int[] NO_NODES = {-1, -2, 200, Integer.MIN_VALUE, Integer.MAX_VALUE};

    private TreeTest() {}

    public static void main(String[] args) {
        nodes();
        nodesOfTheFirstRound();
        node();
        deepNodes();
        text();
        length();
        value();
        manyNodes();
        manyAttributes();
        Check.finish();
    }

    private static void nodes() {
        Sieve sieve = new Sieve();
        Sieves.feed(sieve, "a<b>c<!d>e</b><f>");
        Check.same("before clean", sieve.nodes(), 0);
        sieve.clean();
        Check.same("in the order in which they begin", sieve.nodes(), 6);
        Check.same("0", Sieves.text(sieve, 0), "a");
        Check.same("1", sieve.node(1), 3 + 4 * B);
        Check.same("2", Sieves.text(sieve, 2), "c");
        Check.same("3", Sieves.text(sieve, 3), "d");
        Check.same("4", Sieves.text(sieve, 4), "e");
        Check.same("5", sieve.node(5), 3 + 4 * ('f' - 'a'));
        sieve.wipe();
        sieve.put(Sieves.pack("x"));
        sieve.reset();
        Check.same("of the latest clean", sieve.nodes(), 6);
        sieve.clean();
        Check.same("of the new one", sieve.nodes(), 1);
        Check.same("no more the old ones", sieve.node(1), MarkupSieve.NONE);
        Check.same("no old text", sieve.text(2, 0), 0L);
    }

    private static void nodesOfTheFirstRound() {
        Sieve sieve = Sieves.keeping("a");
        Check.same("three rounds", Sieves.clean(sieve, "<a>1<v><a>2"), "<a>1</a><a>2</a> | 3");
        Check.same("nodes", sieve.nodes(), 5);
        Check.same("v", sieve.node(2), 3 + 4 * V + 128 + 4096);
        Check.same("foreign a", sieve.node(3), 3 + 2 * 128 + 4096);
        Check.same("rejected", Sieves.clean(sieve, "<b>" + "&".repeat(50)), "REJECTED | 1");
        Check.same("nodes of the rejected", sieve.nodes(), 2);
        Check.same("text of the rejected", Sieves.text(sieve, 1), "&".repeat(50));
    }

    private static void node() {
        Sieve sieve = Sieves.cleaned("<a><Z><xx>t<!c><v><b></v>");
        Check.same("letter 0", sieve.node(0), 3);
        Check.same("letter 25", sieve.node(1), 3 + 4 * 25 + 128);
        Check.same("unknown", sieve.node(2), 3 + 4 * 26 + 2 * 128);
        Check.same("text", sieve.node(3), 1 + 3 * 128);
        Check.same("comment", sieve.node(4), 2 + 3 * 128);
        Check.same("v", sieve.node(5), 3 + 4 * V + 3 * 128 + 4096);
        Check.same("foreign", sieve.node(6), 3 + 4 * B + 4 * 128 + 4096);
        Check.same("none", sieve.node(7), MarkupSieve.NONE);
        for (int i : NO_NODES) {
            Check.same("node " + i, sieve.node(i), MarkupSieve.NONE);
        }
        Sieve capitals = Sieves.cleaned("<A A=1 Z=23></a><Z>");
        Check.same("A is letter 0", capitals.node(0), 3);
        Check.same("Z is letter 25", capitals.node(1), 3 + 4 * 25);
        Check.same("attribute A", capitals.length(0, 0), 1);
        Check.same("attribute Z", capitals.length(0, 25), 2);
        Sieve unknown = Sieves.cleaned("<v><yy>t</yy><!c>");
        Check.same("foreign unknown", unknown.node(1), 3 + 4 * 26 + 128 + 4096);
        Check.same("text in it", unknown.node(2), 1 + 2 * 128);
        Check.same("comment beside it", unknown.node(3), 2 + 128);
    }

    private static void deepNodes() {
        Sieve sieve = Sieves.cleaned("<b>".repeat(8) + "x<b>y<n>z<!c></b>w");
        Check.same("nodes", sieve.nodes(), 13);
        Check.same("the eighth", sieve.node(7), 3 + 4 * B + 7 * 128);
        Check.same("text in it", sieve.node(8), 1 + 8 * 128);
        Check.same("joined where no ninth is", Sieves.text(sieve, 8), "xy");
        Check.same("an empty one in it", sieve.node(9), 3 + 4 * N + 8 * 128);
        Check.same("comment in it", sieve.node(11), 2 + 8 * 128);
        Check.same("behind it", sieve.node(12), 1 + 7 * 128);
    }

    private static void text() {
        Sieve sieve = Sieves.cleaned("0123456789abcdefgh<!--klmnopqrst--><b c=d></b>&lt;");
        Check.same("first eight", sieve.text(0, 0), Sieves.pack("01234567"));
        Check.same("next eight", sieve.text(0, 1), Sieves.pack("89abcdef"));
        Check.same("the rest", sieve.text(0, 2), Sieves.pack("gh"));
        Check.same("of a comment", sieve.text(1, 0), Sieves.pack("klmnopqr"));
        Check.same("its rest", sieve.text(1, 1), Sieves.pack("st"));
        Check.same("its end", sieve.text(1, 2), 0L);
        Check.same("of an element", sieve.text(2, 0), 0L);
        Check.same("as it stands for", sieve.text(3, 0), Sieves.pack("<"));
        int[] none = {-1, 3, 25, 26, 1 << 29, 1 << 30, Integer.MIN_VALUE, Integer.MAX_VALUE};
        for (int k : none) {
            Check.same("text 0, " + k, sieve.text(0, k), 0L);
        }
        for (int i : NO_NODES) {
            Check.same("text " + i, sieve.text(i, 0), 0L);
        }
        Check.same("behind the last", sieve.text(4, 0), 0L);
        Check.same("200 characters", Sieves.text(Sieves.cleaned("x".repeat(200)), 0), "x".repeat(200));
    }

    private static void length() {
        Sieve sieve = Sieves.cleaned("t<b a z=&lt;&#65;b c='' o=o xx=1>u<!c>");
        Check.same("without a value", sieve.length(1, 0), 0);
        Check.same("as it stands for", sieve.length(1, 25), 3);
        Check.same("an empty value", sieve.length(1, 2), 0);
        Check.same("o is there too", sieve.length(1, 14), 1);
        Check.same("one it has not", sieve.length(1, 1), MarkupSieve.NONE);
        Check.same("no letter", sieve.length(1, 23), MarkupSieve.NONE);
        int[] wrong = {-1, 26, Integer.MIN_VALUE, Integer.MAX_VALUE};
        for (int a : wrong) {
            Check.same("length 1, " + a, sieve.length(1, a), MarkupSieve.NONE);
        }
        Check.same("of a text", sieve.length(0, 0), MarkupSieve.NONE);
        Check.same("of a text in it", sieve.length(2, 0), MarkupSieve.NONE);
        Check.same("of a comment", sieve.length(3, 0), MarkupSieve.NONE);
        Check.same("of none", sieve.length(4, 0), MarkupSieve.NONE);
        for (int i : NO_NODES) {
            Check.same("length " + i, sieve.length(i, 0), MarkupSieve.NONE);
        }
    }

    private static void value() {
        Sieve sieve = Sieves.cleaned("t<xx c=0123456789 d='x'><b c=klm>");
        Check.same("first eight", sieve.value(1, 2, 0), Sieves.pack("01234567"));
        Check.same("the rest", sieve.value(1, 2, 1), Sieves.pack("89"));
        Check.same("the end", sieve.value(1, 2, 2), 0L);
        Check.same("another", sieve.value(1, 3, 0), Sieves.pack("x"));
        Check.same("of another element", sieve.value(2, 2, 0), Sieves.pack("klm"));
        Check.same("of none", sieve.value(2, 3, 0), 0L);
        Check.same("of a text", sieve.value(0, 2, 0), 0L);
        int[] none = {-1, 3, 25, 26, 1 << 29, 1 << 30, Integer.MIN_VALUE, Integer.MAX_VALUE};
        for (int k : none) {
            Check.same("value 1, 2, " + k, sieve.value(1, 2, k), 0L);
        }
        int[] wrong = {-1, 26, Integer.MIN_VALUE, Integer.MAX_VALUE};
        for (int a : wrong) {
            Check.same("value 1, " + a, sieve.value(1, a, 0), 0L);
        }
        for (int i : NO_NODES) {
            Check.same("value " + i, sieve.value(i, 2, 0), 0L);
        }
        Sieve full = Sieves.cleaned("<b c='" + "x".repeat(192) + "'>");
        Check.same("the longest", full.length(0, 2), 192);
        Check.same("its end", full.value(0, 2, 23), Sieves.pack("xxxxxxxx"));
        Check.same("behind it", full.value(0, 2, 24), 0L);
    }

    private static void manyNodes() {
        Sieve sieve = Sieves.cleaned("x<n>".repeat(50));
        Check.same("100 nodes", sieve.nodes(), 100);
        Check.same("the last", sieve.node(99), 3 + 4 * N);
        Check.same("comments", Sieves.cleaned("x<!>".repeat(49) + "x<!y").nodes(), 100);
        Check.same("paragraphs", Sieves.cleaned("</p>".repeat(50)).nodes(), 50);
    }

    private static void manyAttributes() {
        StringBuilder all = new StringBuilder("<b");
        for (char c = 'a'; c <= 'z'; c++) {
            all.append('/').append(c);
        }
        all.append('>');
        String some = all.substring(0, 2 + 2 * 16) + ">";
        String input = all.toString().repeat(3) + some;
        Check.same("the input is full", input.length(), 200);
        Sieve sieve = Sieves.cleaned(input);
        for (int a = 0; a < 26; a++) {
            Check.same("of the first", sieve.length(0, a), 0);
            Check.same("of the third", sieve.length(2, a), 0);
            Check.same("of the last", sieve.length(3, a), a < 16 ? 0 : MarkupSieve.NONE);
        }
    }
}
