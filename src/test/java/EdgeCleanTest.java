/** The edges of WRITING, CLEANING and promises 8 to 10; above each method stands the sentence. */
public final class EdgeCleanTest {
    private static final char FIRST = 32, LAST = 126;
    private static final int MIN = Integer.MIN_VALUE, MAX = Integer.MAX_VALUE;
    /** Beyond every output; those near a power of two would be within one if 8 * k wrapped around. */
    private static final int[] FAR = {
        MIN, MIN + 1, MIN + 8, -(1 << 30), -(1 << 29) - 1, -(1 << 29), -(1 << 29) + 1, -(1 << 28), -26, -25, -8, -2,
        -1, 26, 27, 32, 200, 256, (1 << 28) - 1, 1 << 28, (1 << 29) - 1, 1 << 29, (1 << 29) + 1, 1 << 30,
        (1 << 30) + 1, MAX - 1, MAX
    };

    private EdgeCleanTest() {}

    public static void main(String[] args) {
        writtenTexts();
        writtenValues();
        orderOfAttributes();
        noAttributes();
        endsOfEmptyElements();
        endsOfAll();
        settledAtOnce();
        settledInTheSecond();
        settledInTheThird();
        mostInTheFirstRound();
        mostByEachPiece();
        mostThatBeginsAsItWas();
        mostInTheSecondRound();
        sizes();
        rejected();
        outputOfEachSize();
        outputBeyond();
        outputOfTheLatest();
        roundsOfNone();
        roundsOfTheLatest();
        Check.finish();
    }

    private static void cleans(Sieve sieve, String input, String due) {
        Check.same("clean of " + input, Sieves.clean(sieve.again(), input), due);
    }

    private static String escape(char c, String which) {
        String[] names = {"&amp;", "&lt;", "&gt;", "&quot;"};
        int place = "&<>\"".indexOf(c);
        return which.indexOf(c) < 0 ? "" + c : names[place];
    }

    /** "a text as it is, but &amp; for &, &lt; for <, &gt; for >": every character. */
    private static void writtenTexts() {
        Sieve sieve = Sieves.keeping("b");
        for (char c = FIRST; c <= LAST; c++) {
            String made = escape(c, "&<>");
            String rounds = made.length() == 1 ? " | 1" : " | 2";
            cleans(sieve, "" + c, made + rounds);
            cleans(sieve, "1" + c + c + "1", "1" + made + made + "1" + rounds);
            cleans(sieve, "<b>" + c + "</b>", "<b>" + made + "</b>" + rounds);
            cleans(sieve, "&#" + (int) c + ";", made + " | " + (made.equals("&#" + (int) c + ";") ? 1 : 2));
        }
    }

    /** "the value, but &amp; for & and &quot; for "": every character, first, last and alone. */
    private static void writtenValues() {
        Sieve sieve = Sieves.allow(Sieves.keeping("b"), 'b', "c");
        for (char c = FIRST; c <= LAST; c++) {
            String made = escape(c, "&\"");
            String reference = "&#" + (int) c + ";";
            cleans(sieve, "<b c='" + reference + "'></b>", "<b c=\"" + made + "\"></b> | 2");
            String due = "<b c=\"" + made + "1" + made + "\"></b>";
            cleans(sieve, "<b c='" + reference + "1" + reference + "'></b>", due + " | 2");
            cleans(sieve, due, due + " | 1");
        }
    }

    /** "for each attribute, in the order of their letters": the first and last letter, all. */
    private static void orderOfAttributes() {
        Sieve sieve = Sieves.allow(Sieves.keeping("b"), '*', "abcdefghijklmnpqrstuvwxyz");
        cleans(sieve, "<b z a></b>", "<b a=\"\" z=\"\"></b> | 2");
        cleans(sieve, "<b a z></b>", "<b a=\"\" z=\"\"></b> | 2");
        cleans(sieve, "<b n p o m></b>", "<b m=\"\" n=\"\" p=\"\"></b> | 2");
        StringBuilder input = new StringBuilder("<b");
        StringBuilder due = new StringBuilder("<b");
        for (char c = 'z'; c >= 'a'; c--) {
            input.append(' ').append(c).append('=').append(c);
        }
        for (char c = 'a'; c <= 'z'; c++) {
            due.append(c == 'o' ? "" : " " + c + "=\"" + c + "\"");
        }
        cleans(sieve, input + ">", due + "></b> | 2");
    }

    /** An element without attributes, and one whose value is empty. */
    private static void noAttributes() {
        Sieve sieve = Sieves.allow(Sieves.keeping("b"), 'b', "c");
        cleans(sieve, "<b></b>", "<b></b> | 1");
        cleans(sieve, "<b c=\"\"></b>", "<b c=\"\"></b> | 1");
        cleans(sieve, "<b d></b>", "<b></b> | 2");
        cleans(sieve, "<b ></b>", "<b></b> | 2");
    }

    /** "Empty elements that are not foreign end with their first ">"." They have nothing in them. */
    private static void endsOfEmptyElements() {
        Sieve sieve = Sieves.keeping("bfmnv");
        for (String c : new String[] {"n", "m"}) {
            String open = "<" + c + ">";
            String end = "</" + c + ">";
            cleans(sieve, open, open + " | 1");
            cleans(sieve, open + end, open + " | 2");
            cleans(sieve, "<b>" + open + "</b>", "<b>" + open + "</b> | 1");
            cleans(sieve, "<v>" + open + end + "</v>", "<v>" + open + end + "</v> | 1");
            cleans(sieve, "<v>" + open, "<v>" + open + end + "</v> | 2");
            cleans(sieve, "<v>" + open + "1" + end + "</v>", "<v>" + open + "1" + end + "</v> | 1");
            cleans(sieve, "<v><f>" + open + "1", "<v><f>" + open + "1</f></v> | 2");
        }
        cleans(sieve, "<b></b>", "<b></b> | 1");
        cleans(sieve, "<v></v>", "<v></v> | 1");
    }

    /** "all in it, "</", its letter, ">"": one to eight elements deep, and those behind them. */
    private static void endsOfAll() {
        Sieve sieve = Sieves.keeping("bi");
        for (int depth = 1; depth <= 8; depth++) {
            String starts = "<b>".repeat(depth);
            String due = starts + "1" + "</b>".repeat(depth);
            cleans(sieve, starts + "1", due + " | 2");
            cleans(sieve, due, due + " | 1");
            cleans(sieve, due + "<i>2</i>", due + "<i>2</i> | 1");
        }
        cleans(sieve, "<b>".repeat(9) + "1", "<b>".repeat(8) + "1" + "</b>".repeat(8) + " | 2");
        cleans(sieve, "<b><i>1</i><i>2</i></b>3", "<b><i>1</i><i>2</i></b>3 | 1");
        cleans(sieve, "<b><i>1</b>2", "<b><i>1</i></b>2 | 2");
    }

    /** "If one writes what it read, this is the OUTPUT": the first round. */
    private static void settledAtOnce() {
        Sieve sieve = Sieves.keeping("b");
        cleans(sieve, "", " | 1");
        cleans(sieve, "x", "x | 1");
        cleans(sieve, "<b>x</b>", "<b>x</b> | 1");
        cleans(sieve, "&amp;", "&amp; | 1");
        cleans(sieve, "x".repeat(200), "x".repeat(200) + " | 1");
    }

    /** The second round, which reads what the first wrote; as long as it, but not the same. */
    private static void settledInTheSecond() {
        Sieve sieve = Sieves.keeping("b");
        cleans(sieve, "<b>x</B>", "<b>x</b> | 2");
        cleans(sieve, "<B>x</b>", "<b>x</b> | 2");
        cleans(sieve, "<b>x", "<b>x</b> | 2");
        cleans(sieve, "<b", " | 2");
        cleans(sieve, "<!>", " | 2");
        cleans(sieve, ">", "&gt; | 2");
        cleans(sieve, "&lt;b>", "&lt;b&gt; | 2");
    }

    /**
     * The third round: what the first wrote was read as another tree. There is never need of a
     * fourth: what the second round reads has STARTs and ENDs of kept letters alone, so its tree is
     * not changed by sifting, and a tree that was read, with nothing sifted, is read back as it was
     * written: each START in it has closed before what it would close. So no call can bring about
     * that "the sixth does not write what it read", nor that the third round or a later one "would
     * write more than 200 characters"; ModelTest looks for such an input in vain.
     */
    private static void settledInTheThird() {
        Sieve sieve = Sieves.keeping("abdlnpu");
        cleans(sieve, "<a>1<v><a>2", "<a>1</a><a>2</a> | 3");
        cleans(sieve, "<p>1<v><f><p>2", "<p>1</p><p>2</p><p></p> | 3");
        cleans(sieve, "<p>1<v><f><d>2", "<p>1</p><d>2</d><p></p> | 3");
        cleans(sieve, "<l>1<v><f><l>2", "<l>1</l><l>2</l> | 3");
        cleans(sieve, "<v><n>1", "<n>1 | 3");
        String nested = "<a><v>".repeat(4) + "<a>1";
        cleans(sieve, nested, "<a></a>".repeat(3) + "<a>1</a> | 3");
        cleans(sieve, "<a><v><a><f><a>1", "<a></a><a></a><a>1</a> | 3");
        cleans(Sieves.keeping("apv"), "<p><v><f><p>1", "<p><v></v></p><p>1</p><p></p> | 3");
    }

    /** "If a round would write more than 200 characters ... REJECTED": the first round. */
    private static void mostInTheFirstRound() {
        Sieve sieve = Sieves.keeping("b");
        for (int more = 0; more <= 6; more++) {
            int written = 196 + more;
            String input = "&".repeat(39) + "x".repeat(1 + more);
            String due = "&amp;".repeat(39) + "x".repeat(1 + more) + " | 2";
            cleans(sieve, input, written <= 200 ? due : "REJECTED | 1");
        }
        cleans(sieve, "&".repeat(40), "&amp;".repeat(40) + " | 2");
        cleans(sieve, "&".repeat(41), "REJECTED | 1");
        cleans(sieve, "&".repeat(200), "REJECTED | 1");
        cleans(sieve, "<".repeat(50), "&lt;".repeat(50) + " | 2");
        cleans(sieve, "<".repeat(51), "REJECTED | 1");
        cleans(sieve, ">".repeat(50), "&gt;".repeat(50) + " | 2");
        cleans(sieve, ">".repeat(51), "REJECTED | 1");
        cleans(sieve, "<s>" + "&".repeat(197), " | 2");
        cleans(sieve, "<!" + "&".repeat(198), " | 2");
    }

    /** The same where the 200th and the 201st character are of an end, a value, a quote or a p. */
    private static void mostByEachPiece() {
        Sieve sieve = Sieves.allow(Sieves.keeping("bnp"), '*', "c");
        for (int size = 190; size <= 194; size++) {
            String text = "x".repeat(size);
            String due = "<b>" + text + "</b>";
            cleans(sieve, "<b>" + text, due.length() <= 200 ? due + " | 2" : "REJECTED | 1");
        }
        for (int size = 186; size <= 194; size++) {
            String due = "<b c=\"" + "x".repeat(size) + "\"></b>";
            cleans(sieve, "<b c=" + "x".repeat(size) + ">", due.length() <= 200 ? due + " | 2" : "REJECTED | 1");
            String empty = "<n c=\"" + "x".repeat(size) + "\">";
            cleans(sieve, "<n c=" + "x".repeat(size) + ">", empty.length() <= 200 ? empty + " | 2" : "REJECTED | 1");
        }
        for (int size = 178; size <= 190; size++) {
            String due = "<n c=\"" + "x".repeat(size) + "&quot;&amp;\">";
            String input = "<n c='" + "x".repeat(size) + "\"&'>";
            cleans(sieve, input, due.length() <= 200 ? due + " | 2" : "REJECTED | 1");
        }
        for (int size = 2; size <= 6; size++) {
            String due = "<p></p>".repeat(28) + "x".repeat(size);
            cleans(sieve, "</p>".repeat(28) + "x".repeat(size), due.length() <= 200 ? due + " | 2" : "REJECTED | 1");
        }
        for (int size = 142; size <= 146; size++) {
            String due = "<b>".repeat(8) + "x".repeat(size) + "</b>".repeat(8);
            cleans(sieve, "<b>".repeat(8) + "x".repeat(size), due.length() <= 200 ? due + " | 2" : "REJECTED | 1");
        }
    }

    /** The same where the first 200 characters that would be written are just those that were read. */
    private static void mostThatBeginsAsItWas() {
        Sieve sieve = Sieves.allow(Sieves.keeping("bn"), '*', "c");
        cleans(sieve, "<b>" + "x".repeat(197), "REJECTED | 1");
        cleans(sieve, "x".repeat(197) + "<b>", "REJECTED | 1");
        cleans(sieve, "x".repeat(197) + "<n>", "x".repeat(197) + "<n> | 1");
        cleans(sieve, "x".repeat(193) + "<b></b>", "x".repeat(193) + "<b></b> | 1");
        cleans(sieve, "x".repeat(194) + "<b></", "REJECTED | 1");
        cleans(sieve, "<b>".repeat(8) + "x".repeat(176), "REJECTED | 1");
        cleans(sieve, "x".repeat(199) + "&", "REJECTED | 1");
        cleans(sieve, "x".repeat(195) + "&", "x".repeat(195) + "&amp; | 2");
        cleans(sieve, "x".repeat(195) + "&amp;", "x".repeat(195) + "&amp; | 1");
        cleans(sieve, "x".repeat(196) + "&amp", "REJECTED | 1");
        cleans(sieve, "x".repeat(199) + "<", "REJECTED | 1");
        cleans(sieve, "x".repeat(200), "x".repeat(200) + " | 1");
    }

    /** The same in the second round: the inner p closes the outer, whose END makes a third. */
    private static void mostInTheSecondRound() {
        Sieve sieve = Sieves.keeping("p");
        for (int size = 177; size <= 188; size++) {
            String text = "x".repeat(size);
            int first = size + 14;
            String due = "<p></p><p>" + text + "</p><p></p>";
            String rejected = first <= 200 ? "REJECTED | 2" : "REJECTED | 1";
            cleans(sieve, "<p><v><f><p>" + text, due.length() <= 200 ? due + " | 3" : rejected);
        }
    }

    /** "how many characters the output has": none, one, around eight and all 200. */
    private static void sizes() {
        for (int size : new int[] {0, 1, 2, 7, 8, 9, 15, 16, 17, 191, 192, 193, 199, 200}) {
            Sieve sieve = Sieves.cleaned("x".repeat(size));
            Check.same("clean of " + size, sieve.clean(), size);
        }
        Check.same("clean of a new object", new Sieve().clean(), 0);
        Check.same("clean of what goes", Sieves.cleaned("<!x>").clean(), 0);
    }

    /** "REJECTED, and there is no output", also where there was one, and will be one again. */
    private static void rejected() {
        Sieve sieve = Sieves.cleaned("x".repeat(200));
        Sieves.feed(sieve, "&".repeat(41));
        Check.same("rejected", sieve.clean(), MarkupSieve.REJECTED);
        for (int k = -1; k <= 26; k++) {
            Check.same("output " + k, sieve.output(k), 0L);
        }
        Check.same("rejected again", sieve.clean(), MarkupSieve.REJECTED);
        Check.same("its tree", Sieves.drawTree(sieve), "'" + "&".repeat(41) + "'");
        Check.same("the input behind it", Sieves.clean(sieve, "y"), "y | 1");
        Sieve second = Sieves.keeping("p");
        Sieves.feed(second, "<p><v><f><p>" + "x".repeat(180));
        Check.same("rejected in the second round", second.clean(), MarkupSieve.REJECTED);
        Check.same("no output of the first round", second.output(0), 0L);
        Check.same("its rounds", second.rounds(), 2);
        Check.yes("the input stays: 192 and eight", second.put(Sieves.pack("yyyyyyyy")));
        Check.no("and one more", second.put('y'));
    }

    /** "Eight characters ... from 8 * k on, the first in the lowest byte; 0 where there is none." */
    private static void outputOfEachSize() {
        String all = "";
        for (int i = 0; i < 200; i++) {
            all += (char) ('a' + i % 25);
        }
        for (int size = 0; size <= 200; size++) {
            String text = all.substring(0, size);
            Sieve sieve = Sieves.cleaned(text);
            for (int k = -2; k <= 27; k++) {
                Check.same("output " + k + " of " + size, sieve.output(k), Sieves.eightOf(text, k));
            }
        }
    }

    /** "0 where there is none": negative ones, the smallest and the largest int, wrap-arounds. */
    private static void outputBeyond() {
        for (int size : new int[] {0, 1, 8, 200}) {
            Sieve sieve = Sieves.cleaned("x".repeat(size));
            for (int k : FAR) {
                Check.same("output " + k + " of " + size, sieve.output(k), 0L);
            }
        }
    }

    /** "of the latest clean()": a shorter one leaves nothing of a longer one before it. */
    private static void outputOfTheLatest() {
        Sieve sieve = Sieves.cleaned("x".repeat(200));
        for (String text : new String[] {"y".repeat(17), "z".repeat(8), "", "w"}) {
            Sieves.feed(sieve, text);
            sieve.clean();
            for (int k = 0; k <= 25; k++) {
                Check.same("output " + k + " of " + text, sieve.output(k), Sieves.eightOf(text, k));
            }
        }
        sieve.put('v');
        sieve.reset();
        Check.same("output before clean", sieve.output(0), Sieves.pack("w"));
        sieve.wipe();
        Check.same("output behind wipe", sieve.output(0), Sieves.pack("w"));
        Check.same("output asked twice", sieve.output(0), Sieves.pack("w"));
    }

    /** "0 if there was none": until the first clean(), whatever is called. */
    private static void roundsOfNone() {
        Sieve sieve = new Sieve();
        Check.same("rounds of none", sieve.rounds(), 0);
        Sieves.add(sieve, "<b>x");
        Sieves.act(sieve, MarkupSieve.KEEP, "b");
        sieve.output(0);
        sieve.nodes();
        sieve.reset();
        Check.same("rounds of none yet", sieve.rounds(), 0);
        sieve.clean();
        Check.same("rounds of one clean()", sieve.rounds(), 2);
    }

    /**
     * "whatever was called after it (the last one, which told that nothing changes or would write
     * too much, too)": one, two, three rounds, and rejected in the first and in the second.
     */
    private static void roundsOfTheLatest() {
        String text = "x".repeat(180);
        String[] inputs = {"x", "", "<p>", "<p><v><f><p>", "&".repeat(41), "<p><v><f><p>" + text, "x"};
        int[] rounds = {1, 1, 2, 3, 1, 2, 1};
        Sieve sieve = Sieves.keeping("p");
        for (int i = 0; i < inputs.length; i++) {
            Sieves.feed(sieve, inputs[i]);
            sieve.clean();
            Check.same("rounds of " + inputs[i], sieve.rounds(), rounds[i]);
            sieve.wipe();
            sieve.put('y');
            sieve.put(-1L);
            sieve.action(26, 0);
            sieve.attribute(-2, 0, true);
            sieve.scheme(0L);
            sieve.output(0);
            sieve.node(0);
            Check.same("rounds, whatever was called", sieve.rounds(), rounds[i]);
            Check.same("rounds asked twice", sieve.rounds(), rounds[i]);
        }
        sieve.reset();
        Check.same("rounds behind reset", sieve.rounds(), 1);
    }
}
