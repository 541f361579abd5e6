/** Promises 8 to 10, clean, output and rounds, and how a tree is written. */
public final class CleanTest {
    private CleanTest() {}

    public static void main(String[] args) {
        writing();
        writingEmptyAndForeign();
        settling();
        tooLong();
        tooLongInTheSecondRound();
        output();
        rounds();
        longestRun();
        Check.finish();
    }

    private static void writing() {
        Sieve sieve = Sieves.keeping("b");
        sieve.attribute(1, 2, true);
        String text = "a&amp;b&lt;c&gt;d\"e'f";
        Check.same("text", Sieves.clean(sieve, "a&b<!>&lt;c>d\"e'f"), text + " | 2");
        Check.same("text again", Sieves.clean(sieve, text), text + " | 1");
        String value = "<b c=\"a&amp;b<c>d&quot;e'f\"></b>";
        Check.same("value", Sieves.clean(sieve, "<b c='a&b<c>d\"e&#39;f'>"), value + " | 2");
        Check.same("value again", Sieves.clean(sieve, value), value + " | 1");
        Check.same("empty value", Sieves.clean(sieve, "<B C/>"), "<b c=\"\"></b> | 2");
        Check.same("small letters", Sieves.clean(sieve, "<B>X</B>"), "<b>X</b> | 2");
        Check.same("nothing", Sieves.clean(sieve, ""), " | 1");
        Check.same("all gone", Sieves.clean(sieve, "<b"), " | 2");
    }

    private static void writingEmptyAndForeign() {
        Sieve sieve = Sieves.keeping("bmnvf");
        Check.same("empty ones", Sieves.clean(sieve, "<n>1<m>2</n>"), "<n>1<m>2 | 2");
        String foreign = "<v><n>1</n><m>2</m></v>";
        Check.same("foreign ones", Sieves.clean(sieve, foreign), foreign + " | 1");
        String unended = "<v><n>1<m>2";
        String nested = "<v><n>1<m>2</m></n></v> | 2";
        Check.same("foreign ones without ends", Sieves.clean(sieve, unended), nested);
        String bridge = "<v><f><n>1<m>2</f></v>";
        Check.same("empty ones in a bridge", Sieves.clean(sieve, bridge), bridge + " | 1");
    }

    private static void settling() {
        Sieve sieve = Sieves.keeping("apn");
        Check.same("a in a", Sieves.clean(sieve, "<a>1<v><a>2</a>3</v>4</a>"), "<a>1</a><a>2</a>34 | 3");
        Check.same("p in p", Sieves.clean(sieve, "<p>1<v><f><p>2</p>3</f></v>4</p>"),
                "<p>1</p><p>2</p>34<p></p> | 3");
        Check.same("foreign n", Sieves.clean(sieve, "<v><n>1</n>2</v>"), "<n>12 | 3");
        Check.same("a joined reference", Sieves.clean(sieve, "&l<x>t;"), "&amp;lt; | 2");
        Check.same("a joined tag", Sieves.clean(sieve, "<<x>a>"), "&lt;a&gt; | 2");
    }

    private static void tooLong() {
        Sieve sieve = Sieves.keeping("b");
        String fits = "&".repeat(40);
        Check.same("200 written", Sieves.clean(sieve, fits), "&amp;".repeat(40) + " | 2");
        Check.same("201 written", Sieves.clean(sieve, fits + "x"), "REJECTED | 1");
        Check.same("200 with an end", Sieves.clean(sieve, "<b>" + "x".repeat(193)),
                "<b>" + "x".repeat(193) + "</b> | 2");
        Check.same("201 with an end", Sieves.clean(sieve, "<b>" + "x".repeat(194)), "REJECTED | 1");
        String same = "x".repeat(200);
        Check.same("200 that stay", Sieves.clean(sieve, same), same + " | 1");
        Check.same("what is dropped is not written", Sieves.clean(sieve, "<s>" + "&".repeat(190)), " | 2");
    }

    private static void tooLongInTheSecondRound() {
        Sieve sieve = Sieves.keeping("p");
        // The first round takes v and f away; only then the inner p closes the outer, whose end is
        // left over and makes a third.
        String start = "<p><v><f><p>";
        String fits = "<p></p><p>" + "x".repeat(179) + "</p><p></p>";
        Check.same("200 written", Sieves.clean(sieve, start + "x".repeat(179)), fits + " | 3");
        Check.same("201 written", Sieves.clean(sieve, start + "x".repeat(180)), "REJECTED | 2");
        Check.same("200, then 207", Sieves.clean(sieve, start + "x".repeat(186)), "REJECTED | 2");
        Check.same("201 at once", Sieves.clean(sieve, start + "x".repeat(187)), "REJECTED | 1");
        Check.same("the tree stays", sieve.nodes(), 5);
    }

    private static void output() {
        Sieve sieve = new Sieve();
        Sieves.feed(sieve, "abcdefghijk");
        Check.same("before clean", sieve.output(0), 0L);
        sieve.clean();
        Check.same("first eight", sieve.output(0), Sieves.pack("abcdefgh"));
        Check.same("the rest", sieve.output(1), Sieves.pack("ijk"));
        int[] none = {
            2, 24, 25, 26, -1, -2, 1 << 28, 1 << 29, 1 << 30, Integer.MIN_VALUE, Integer.MAX_VALUE
        };
        for (int k : none) {
            Check.same("output " + k, sieve.output(k), 0L);
        }
        sieve.wipe();
        sieve.put(Sieves.pack("&".repeat(8)));
        Check.same("of the latest clean", Sieves.output(sieve), "abcdefghijk");
        Sieves.feed(sieve, "&".repeat(41));
        Check.same("rejected", sieve.clean(), MarkupSieve.REJECTED);
        Check.same("no output", sieve.output(0), 0L);
        Sieves.feed(sieve, "x");
        sieve.clean();
        Check.same("a shorter one", sieve.output(0), Sieves.pack("x"));
    }

    private static void rounds() {
        Sieve sieve = new Sieve();
        Check.same("none", sieve.rounds(), 0);
        Sieves.feed(sieve, "<b>");
        Check.same("none yet", sieve.rounds(), 0);
        sieve.clean();
        Check.same("two", sieve.rounds(), 2);
        Sieves.feed(sieve, "x");
        sieve.reset();
        sieve.action(0, 0);
        sieve.output(0);
        Check.same("whatever was called", sieve.rounds(), 2);
        sieve.clean();
        Check.same("one", sieve.rounds(), 1);
        Check.same("cleaned again", sieve.clean(), 1);
        Check.same("one again", sieve.rounds(), 1);
    }

    /** An object is used for 512 calls; what the dearest ones leave behind must not add up. */
    private static void longestRun() {
        Sieve sieve = Sieves.keeping("abp");
        sieve.attribute(MarkupSieve.EVERY, 2, true);
        String input = "<a c='1'><v><a c=2><b c='&lt;'><p c>&lt;".repeat(4);
        Sieves.feed(sieve, input);
        int size = sieve.clean();
        int nodes = sieve.nodes();
        String output = Sieves.output(sieve);
        while (sieve.callsLeft() > 100) {
            Check.same("clean again", sieve.clean(), size);
            Check.same("nodes again", sieve.nodes(), nodes);
            Check.same("value again", Sieves.value(sieve, 3, 2), "<");
        }
        Check.same("output again", Sieves.output(sieve), output);
        Check.same("a long one then", Sieves.clean(sieve, "x".repeat(200)), "x".repeat(200) + " | 1");
    }
}
