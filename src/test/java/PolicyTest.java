/** Promises 4 to 7, action, attribute, scheme and reset, and how a tree is sifted by them. */
public final class PolicyTest {
    private static final int H = 'h' - 'a', O = 'o' - 'a', S = 's' - 'a';

    private PolicyTest() {}

    public static void main(String[] args) {
        actionAnswers();
        actionWorks();
        actionOfUnknown();
        attributeAnswers();
        attributeWorks();
        attributeOfEvery();
        schemeAnswers();
        schemeWorks();
        schemeKinds();
        reset();
        Check.finish();
    }

    private static void actionAnswers() {
        Sieve sieve = new Sieve();
        for (int letter = 0; letter < 26; letter++) {
            for (int what = 0; what < 3; what++) {
                boolean due = letter != S || what != MarkupSieve.KEEP;
                Check.same("action " + letter + ", " + what, sieve.action(letter, what), due);
            }
        }
        int[] wrong = {-1, 26, -2, 27, Integer.MIN_VALUE, Integer.MAX_VALUE};
        for (int w : wrong) {
            Check.no("action of letter " + w, sieve.action(w, MarkupSieve.UNWRAP));
        }
        int[] wrongActions = {-1, 3, Integer.MIN_VALUE, Integer.MAX_VALUE};
        for (int w : wrongActions) {
            Check.no("action " + w, sieve.action(0, w));
            Check.no("action of s, " + w, sieve.action(S, w));
        }
    }

    private static void actionWorks() {
        String input = "1<b>2<i>3</i>4</b>5";
        Sieve sieve = new Sieve();
        Check.same("unwrapped", Sieves.clean(sieve, input), "12345 | 2");
        Sieves.act(sieve, MarkupSieve.KEEP, "b");
        Check.same("one kept", Sieves.clean(sieve, input), "1<b>234</b>5 | 2");
        Sieves.act(sieve, MarkupSieve.KEEP, "i");
        Check.same("both kept", Sieves.clean(sieve, input), input + " | 1");
        Sieves.act(sieve, MarkupSieve.DROP, "i");
        Check.same("inner dropped", Sieves.clean(sieve, input), "1<b>24</b>5 | 2");
        Sieves.act(sieve, MarkupSieve.DROP, "b");
        Check.same("outer dropped", Sieves.clean(sieve, input), "15 | 2");
        Sieves.act(sieve, MarkupSieve.UNWRAP, "b");
        Check.same("outer unwrapped", Sieves.clean(sieve, input), "1245 | 2");
        Check.no("a wrong action", sieve.action(1, 3));
        Check.same("changed nothing", Sieves.clean(sieve, input), "1245 | 2");
        Check.no("s kept", sieve.action(S, MarkupSieve.KEEP));
        Check.same("s is dropped", Sieves.clean(sieve, "1<s>2</s>3"), "13 | 2");
        Sieves.act(sieve, MarkupSieve.UNWRAP, "s");
        Check.no("s kept", sieve.action(S, MarkupSieve.KEEP));
        Check.same("s is unwrapped", Sieves.clean(sieve, "1<s><b></s>3"), "1&lt;b&gt;3 | 2");
        Sieves.act(sieve, MarkupSieve.DROP, "az");
        Check.same("first and last letter", Sieves.clean(sieve, "1<a>2</a>3<z>4</z>5"), "135 | 2");
        Check.same("a dropped one that is empty", Sieves.clean(
                Sieves.act(new Sieve(), MarkupSieve.DROP, "n"), "<b>1<n>2</b>3"), "123 | 2");
    }

    private static void actionOfUnknown() {
        Sieve sieve = Sieves.keeping("b");
        Sieves.act(sieve, MarkupSieve.DROP, "acd");
        Check.same("unknown", Sieves.clean(sieve, "1<bb>2<b>3</b></bb>4"), "12<b>3</b>4 | 2");
        Check.same("comments go", Sieves.clean(sieve, "1<!--2-->3<?4>5<!6>7</8>9"), "13579 | 2");
    }

    private static void attributeAnswers() {
        for (int letter = -1; letter < 26; letter++) {
            Sieve each = new Sieve();
            for (int a = 0; a < 26; a++) {
                Check.same("attribute " + letter + ", " + a, each.attribute(letter, a, true), a != O);
                Check.yes("attribute " + letter + ", " + a + " not", each.attribute(letter, a, false));
            }
        }
        Sieve sieve = new Sieve();
        int[] wrong = {-2, 26, Integer.MIN_VALUE, Integer.MAX_VALUE};
        for (int w : wrong) {
            Check.no("attribute of letter " + w, sieve.attribute(w, 0, true));
            Check.no("attribute of letter " + w, sieve.attribute(w, 0, false));
            Check.no("attribute " + w, sieve.attribute(0, w, true));
            Check.no("attribute " + w, sieve.attribute(MarkupSieve.EVERY, w, false));
        }
        Check.no("attribute -1", sieve.attribute(0, -1, true));
        Check.no("attribute -1", sieve.attribute(0, -1, false));
    }

    private static void attributeWorks() {
        Sieve sieve = Sieves.keeping("bi");
        String input = "<b z=1 c=2 a=3></b><i c=4></i>";
        Check.same("none may", Sieves.clean(sieve, input), "<b></b><i></i> | 2");
        sieve.attribute(1, 2, true);
        Check.same("b may c", Sieves.clean(sieve, input), "<b c=\"2\"></b><i></i> | 2");
        sieve.attribute(1, 0, true);
        sieve.attribute(1, 25, true);
        String all = "<b a=\"3\" c=\"2\" z=\"1\"></b><i></i>";
        Check.same("in the order of letters", Sieves.clean(sieve, input), all + " | 2");
        Check.same("again", Sieves.clean(sieve, all), all + " | 1");
        sieve.attribute(1, 2, false);
        String less = "<b a=\"3\" z=\"1\"></b><i></i> | 2";
        Check.same("b may not c", Sieves.clean(sieve, input), less);
        Check.no("o may not", sieve.attribute(1, O, true));
        Check.same("o goes", Sieves.clean(sieve, "<b o=1 a=2>"), "<b a=\"2\"></b> | 2");
    }

    private static void attributeOfEvery() {
        Sieve sieve = Sieves.keeping("binmv");
        String input = "<b c=1></b><i c=2></i><n c=3>";
        sieve.attribute(MarkupSieve.EVERY, 2, true);
        String all = "<b c=\"1\"></b><i c=\"2\"></i><n c=\"3\"> | 2";
        Check.same("every element may", Sieves.clean(sieve, input), all);
        sieve.attribute(1, 2, false);
        Check.same("b may as one of every", Sieves.clean(sieve, input), all);
        sieve.attribute(8, 2, true);
        sieve.attribute(MarkupSieve.EVERY, 2, false);
        String one = "<b></b><i c=\"2\"></i><n> | 2";
        Check.same("i may by its letter", Sieves.clean(sieve, input), one);
        Check.no("every element may o", sieve.attribute(MarkupSieve.EVERY, O, true));
        Check.same("no o", Sieves.clean(sieve, "<b o>"), "<b></b> | 2");
    }

    private static void schemeAnswers() {
        Sieve sieve = new Sieve();
        Check.no("nothing", sieve.scheme(0L));
        Check.no("capitals", sieve.scheme(Sieves.pack("Http")));
        Check.no("a digit", sieve.scheme(Sieves.pack("h2")));
        Check.no("before a", sieve.scheme(Sieves.pack("a`")));
        Check.no("behind z", sieve.scheme(Sieves.pack("{")));
        Check.no("a gap", sieve.scheme(Sieves.pack("a\0b")));
        Check.no("a gap first", sieve.scheme(Sieves.pack("\0a")));
        Check.no("a gap before the last", sieve.scheme(Sieves.pack("abcdef\0h")));
        Check.no("high bytes", sieve.scheme(-1L));
        Check.no("a high byte last", sieve.scheme(Sieves.pack("abcdefg\u00e1")));
        Check.yes("eight letters", sieve.scheme(Sieves.pack("abcdefgz")));
        Check.no("allowed already", sieve.scheme(Sieves.pack("abcdefgz")));
        Check.yes("one letter", sieve.scheme(Sieves.pack("a")));
        Check.yes("two letters", sieve.scheme(Sieves.pack("az")));
        Check.no("not so", sieve.scheme(Sieves.pack("a:")));
        Check.yes("the fourth", sieve.scheme(Sieves.pack("http")));
        Check.no("a fifth", sieve.scheme(Sieves.pack("ftp")));
        Check.no("one of the four", sieve.scheme(Sieves.pack("a")));
    }

    /** Tells whether attribute h with this value is kept, asked of a copy. */
    private static boolean keeps(Sieve sieve, String value) {
        String kept = Sieves.clean(sieve.again(), "<b h='" + value + "'></b>");
        boolean gone = kept.startsWith("<b></b> ");
        Check.yes("kept whole or gone: " + kept, gone || kept.startsWith("<b h=\""));
        return !gone;
    }

    private static void schemeWorks() {
        Sieve sieve = Sieves.keeping("b");
        sieve.attribute(1, H, true);
        sieve.attribute(1, 'r' - 'a', true);
        sieve.attribute(1, 'c' - 'a', true);
        Check.no("not allowed yet", keeps(sieve, "http:x"));
        sieve.scheme(Sieves.pack("http"));
        sieve.scheme(Sieves.pack("abcdefgh"));
        String r = "<b r=http:x h=ja:x></b><b r=ja:x c=ja:x>";
        Check.same("h, r and c", Sieves.clean(sieve, r),
                "<b r=\"http:x\"></b><b c=\"ja:x\"></b> | 2");
        Check.yes("allowed", keeps(sieve, "http:x"));
        Check.yes("eight letters", keeps(sieve, "abcdefgh:"));
        Check.no("nine letters", keeps(sieve, "abcdefghi:"));
        Check.no("fewer letters", keeps(sieve, "abcdefg:"));
        Check.no("many letters", keeps(sieve, "httphttphttphttphttp:"));
        Check.no("refused", sieve.scheme(Sieves.pack("http")));
        sieve.scheme(Sieves.pack("c"));
        sieve.scheme(Sieves.pack("d"));
        Check.no("a fifth", sieve.scheme(Sieves.pack("e")));
        Check.yes("the third", keeps(sieve, "c:"));
        Check.yes("the fourth", keeps(sieve, "d:"));
        Check.no("the fifth", keeps(sieve, "e:"));
    }

    private static void schemeKinds() {
        Sieve sieve = Sieves.keeping("b");
        sieve.attribute(MarkupSieve.EVERY, H, true);
        sieve.scheme(Sieves.pack("http"));
        String[] kept = {
            "", " ", "x", "/x:y", "?x:y", "#x:", ":x", "1x:y", "+x:", "-x:", ".x:", "x y:z", "x_y:z", "x/y:",
            "http:", "HTTP:x", "hTtP:x", "  http:x", "http::ja:", "http", "ja", "ja x:", "&amp;ja:", "&#49;a:"
        };
        for (String value : kept) {
            Check.yes("keeps h=" + value, keeps(sieve, value));
        }
        String[] gone = {
            "x:", "ja:x", " ja:x", "   JA:x", "j1:x", "j+-.9:x", "https:x", "htt:x", "http+:", "http1:", "j:",
            "ja&#58;x", "&#106;a:x", "&#32;ja:", "Z:", "z:", "a:", "A:"
        };
        for (String value : gone) {
            Check.no("keeps h=" + value, keeps(sieve, value));
        }
        sieve.attribute(MarkupSieve.EVERY, H + 1, true);
        String next = "<b h=\"ja\" i=\":x\"></b>";
        Check.same("the next value is not read on", Sieves.clean(sieve, next), next + " | 1");
        String blank = "<b h=\" \" i=\"ja:x\"></b>";
        Check.same("nor behind blanks", Sieves.clean(sieve, blank), blank + " | 1");
    }

    private static void reset() {
        Sieve sieve = Sieves.keeping("bh");
        Sieves.act(sieve, MarkupSieve.UNWRAP, "s");
        Sieves.act(sieve, MarkupSieve.DROP, "i");
        sieve.attribute(1, H, true);
        sieve.attribute(MarkupSieve.EVERY, 2, true);
        for (String scheme : new String[] {"http", "ftp", "x", "y"}) {
            sieve.scheme(Sieves.pack(scheme));
        }
        String input = "<b h=http:x c>1</b><s>2</s><i>3</i>";
        String first = "<b c=\"\" h=\"http:x\">1</b>2";
        Check.same("before", Sieves.clean(sieve, input), first + " | 2");
        sieve.reset();
        Check.same("reset keeps the output", Sieves.output(sieve), first);
        Check.same("reset keeps the rounds", sieve.rounds(), 2);
        Check.same("reset keeps the nodes", sieve.nodes(), 6);
        Check.same("reset keeps the input", sieve.clean(), 2);
        Check.same("actions as at first", Sieves.output(sieve), "13");
        Sieves.act(sieve, MarkupSieve.KEEP, "b");
        Check.same("attributes as at first", Sieves.clean(sieve, "<b h c>"), "<b></b> | 2");
        sieve.attribute(1, H, true);
        Check.same("schemes as at first", Sieves.clean(sieve, "<b h=http:>"), "<b></b> | 2");
        for (String scheme : new String[] {"http", "p", "q", "r"}) {
            Check.yes("room for four schemes", sieve.scheme(Sieves.pack(scheme)));
        }
        String again = "<b h=\"http:\"></b> | 2";
        Check.same("allowed again", Sieves.clean(sieve, "<b h=http:>"), again);
        Check.same("ftp is not", Sieves.clean(sieve, "<b h=ftp:>"), "<b></b> | 2");
    }
}
