/** The edges of THE POLICY, SIFTING and SCHEME; above each method stands the sentence it tests. */
public final class EdgeSiftTest {
    private static final char FIRST = 32, LAST = 126;

    private EdgeSiftTest() {}

    public static void main(String[] args) {
        commentsGo();
        droppedGo();
        unwrappedGivePlace();
        rawGivesPlace();
        unknownGivePlace();
        keptAttributes();
        addressLetters();
        schemeFirst();
        schemeNext();
        schemeEnd();
        schemeBlanks();
        schemeSizes();
        schemeCase();
        schemeOfReferences();
        schemesOfFour();
        valuesApart();
        Check.finish();
    }

    private static void makes(Sieve sieve, String input, String due) {
        String made = Sieves.clean(sieve.again(), input);
        Check.same("output of " + input, made.substring(0, made.lastIndexOf(" | ")), due);
    }

    private static boolean isLetter(char c) {
        return c >= 'a' && c <= 'z' || c >= 'A' && c <= 'Z';
    }

    /** "comments go": at the ends, between texts, in elements, with nothing else. */
    private static void commentsGo() {
        Sieve sieve = Sieves.keeping("b");
        makes(sieve, "<!x>", "");
        makes(sieve, "<!x>1<!y>2<!z>", "12");
        makes(sieve, "<b><!x></b>", "<b></b>");
        makes(sieve, "1<!--", "1");
        makes(sieve, "&l<!>t;", "&amp;lt;");
        makes(sieve, "<<!>b>", "&lt;b&gt;");
    }

    /** "an element to be dropped goes with all in it", and with nothing behind it. */
    private static void droppedGo() {
        Sieve sieve = Sieves.act(Sieves.keeping("bnv"), MarkupSieve.DROP, "im");
        makes(sieve, "<i>", "");
        makes(sieve, "1<i></i>2", "12");
        makes(sieve, "1<i>2<b>3</b>4</i>5", "15");
        makes(sieve, "1<i>2<i>3</i>4</i>5", "15");
        makes(sieve, "1<i>2<b>3<i>4</i>5</b>6</i>7", "17");
        makes(sieve, "<b><i>1</i></b>2", "<b></b>2");
        makes(sieve, "<i>1</i><b>2</b><i>3</i>4", "<b>2</b>4");
        makes(sieve, "<i><n></i><n>", "<n>");
        makes(sieve, "<m>1", "1");
        makes(sieve, "<v><m>1</m>2</v>", "<v>2</v>");
        makes(sieve, "<k>".repeat(7) + "<i>1</i>2", "2");
        makes(sieve, "<i>" + "<b>".repeat(7) + "1" + "</b>".repeat(7) + "2</i>3", "3");
    }

    /** "one to be unwrapped ... gives its place to its children": none, one, more, nested. */
    private static void unwrappedGivePlace() {
        Sieve sieve = Sieves.keeping("b");
        makes(sieve, "<i>", "");
        makes(sieve, "1<i></i>2", "12");
        makes(sieve, "1<i>2</i>3", "123");
        makes(sieve, "1<i>2<b>3</b>4</i>5", "12<b>3</b>45");
        makes(sieve, "<b>1<i>2</i>3</b>", "<b>123</b>");
        makes(sieve, "<i><i><i>1", "1");
        makes(sieve, "<i><b><i><b>1", "<b><b>1</b></b>");
        makes(sieve, "<n>1", "1");
        makes(sieve, "<v><n>1</n>2", "12");
    }

    /** An unwrapped s gives its place to its raw text: none, up to its END, up to the end. */
    private static void rawGivesPlace() {
        Sieve sieve = Sieves.act(Sieves.keeping("b"), MarkupSieve.UNWRAP, "s");
        makes(sieve, "1<s></s>2", "12");
        makes(sieve, "1<s>", "1");
        makes(sieve, "1<s>2", "12");
        makes(sieve, "1<s>2</s", "12");
        makes(sieve, "1<s>2</s>3", "123");
        makes(sieve, "1<s><b>&lt;</s>3", "1&lt;b&gt;&amp;lt;3");
        makes(sieve, "<s>" + "x".repeat(197), "x".repeat(197));
    }

    /** "and every unknown one": whatever is said of letters. */
    private static void unknownGivePlace() {
        Sieve kept = Sieves.keeping("abcdefghijklmnopqrtuvwxyz");
        Sieve dropped = Sieves.act(new Sieve(), MarkupSieve.DROP, "abcdefghijklmnopqrstuvwxyz");
        makes(kept, "1<xx>2</xx>3", "123");
        makes(dropped, "1<xx>2</xx>3", "123");
        makes(kept, "1<ss>2</ss>3", "123");
        makes(kept, "<xx><b>1</b></xx>", "<b>1</b>");
        makes(dropped, "<xx><b>1</b>2</xx>", "2");
        makes(kept, "<v><xx><n>1</n></xx></v>", "<v><n>1</n></v>");
    }

    /** "kept ones keep those attributes that their letter or EVERY element may have". */
    private static void keptAttributes() {
        String input = "<b c=1></b><i c=1></i>";
        makes(Sieves.keeping("bi"), input, "<b></b><i></i>");
        makes(Sieves.allow(Sieves.keeping("bi"), 'b', "c"), input, "<b c=\"1\"></b><i></i>");
        String both = "<b c=\"1\"></b><i c=\"1\"></i>";
        makes(Sieves.allow(Sieves.keeping("bi"), '*', "c"), input, both);
        makes(Sieves.allow(Sieves.allow(Sieves.keeping("bi"), '*', "c"), 'b', "c"), input, both);
        Sieve taken = Sieves.allow(Sieves.keeping("bi"), '*', "c");
        taken.attribute(1, 2, false);
        makes(taken, input, both);
        Sieve left = Sieves.allow(Sieves.allow(Sieves.keeping("bi"), '*', "c"), 'b', "c");
        left.attribute(MarkupSieve.EVERY, 2, false);
        makes(left, input, "<b c=\"1\"></b><i></i>");
        Sieve ends = Sieves.allow(Sieves.keeping("az"), 'a', "z");
        Sieves.allow(ends, 'z', "a");
        makes(ends, "<a a z></a><z a z></z>", "<a z=\"\"></a><z a=\"\"></z>");
        Sieve foreign = Sieves.allow(Sieves.keeping("vn"), 'n', "c");
        makes(foreign, "<v c><n c d>", "<v><n c=\"\"></n></v>");
    }

    /** "for h and r, whose value has an allowed SCHEME or none": each letter. o is never kept. */
    private static void addressLetters() {
        for (char a = 'a'; a <= 'z'; a++) {
            if (a != 'o') {
                Sieve sieve = Sieves.allow(Sieves.keeping("b"), 'b', "" + a);
                String kept = "<b " + a + "=\"x:y\"></b>";
                makes(sieve, kept, a == 'h' || a == 'r' ? "<b></b>" : kept);
                String none = "<b " + a + "=\"xy\"></b>";
                makes(sieve, none, none);
                Sieves.allowSchemes(sieve, "x");
                makes(sieve, kept, kept);
            }
        }
    }

    /** Tells for h and for r whether the value, in which no " may be, is kept. */
    private static void keeps(Sieve sieve, String value, boolean due) {
        for (char a : "hr".toCharArray()) {
            String made = Sieves.clean(sieve.again(), "<b " + a + "=\"" + value + "\"></b>");
            Check.same("keeps " + a + "=" + value, !made.startsWith("<b></b> "), due);
        }
    }

    private static Sieve withAddresses(String... schemes) {
        return Sieves.allowSchemes(Sieves.allow(Sieves.keeping("b"), 'b', "hr"), schemes);
    }

    /** "behind blanks at its beginning, a letter": every character in its place, or none. */
    private static void schemeFirst() {
        Sieve sieve = withAddresses();
        for (char c = FIRST; c <= LAST; c++) {
            if (c != '"') {
                keeps(sieve, c + ":", !isLetter(c));
                // Behind a blank j: is the scheme; any other that is no letter stands before it.
                keeps(sieve, c + "j:x", !isLetter(c) && c != ' ');
            }
        }
        keeps(sieve, "", true);
        keeps(sieve, ":", true);
        keeps(sieve, "::", true);
        keeps(sieve, ":j:", true);
    }

    /** "perhaps more letters, digits, + - and ., and then ":"": every character in their place. */
    private static void schemeNext() {
        Sieve sieve = withAddresses();
        for (char c = FIRST; c <= LAST; c++) {
            if (c != '"') {
                boolean goesOn = isLetter(c) || c >= '0' && c <= '9' || c == '+' || c == '-' || c == '.' || c == ':';
                keeps(sieve, "j" + c + ":", !goesOn);
                keeps(sieve, "jj" + c + "j:x", !goesOn);
            }
        }
        keeps(sieve, "j1+-.:", false);
        keeps(sieve, "j/:", true);
        // A scheme with another character than a letter has no way to be allowed.
        Check.no("scheme h2", sieve.scheme(Sieves.pack("h2")));
    }

    /** "and then ":"": without it, and behind another character, there is none. */
    private static void schemeEnd() {
        Sieve sieve = withAddresses();
        keeps(sieve, "j", true);
        keeps(sieve, "j:", false);
        keeps(sieve, "j:x", false);
        keeps(sieve, "j::", false);
        keeps(sieve, "j;x", true);
        keeps(sieve, "j9x", true);
        keeps(sieve, "j :", true);
        keeps(sieve, "j x:", true);
        keeps(sieve, "j/x:", true);
        keeps(sieve, "j".repeat(50), true);
        keeps(sieve, "j".repeat(50) + ":", false);
    }

    /** "behind blanks at its beginning": none, one, many, nothing else. */
    private static void schemeBlanks() {
        Sieve sieve = withAddresses("http");
        for (int blanks : new int[] {0, 1, 2, 7, 8, 9, 100}) {
            keeps(sieve, " ".repeat(blanks) + "http:", true);
            keeps(sieve, " ".repeat(blanks) + "j:", false);
            keeps(sieve, " ".repeat(blanks) + ":", true);
            keeps(sieve, " ".repeat(blanks), true);
            keeps(sieve, " ".repeat(blanks) + "j", true);
        }
    }

    /** "what stands before ":" is it": less, more, and more than eight letters can be. */
    private static void schemeSizes() {
        Sieve sieve = withAddresses("a", "abcdefgh", "kkkkkkk");
        String letters = "abcdefghabcdefghabcdefgh";
        for (int size = 1; size <= letters.length(); size++) {
            keeps(sieve, letters.substring(0, size) + ":", size == 1 || size == 8);
        }
        for (int size = 1; size <= 24; size++) {
            keeps(sieve, "k".repeat(size) + ":", size == 7);
            keeps(sieve, "a".repeat(size) + ":", size == 1);
        }
        keeps(sieve, "bcdefgh:", false);
        keeps(sieve, "abcdefg1:", false);
        keeps(sieve, "abcdefgh1:", false);
        keeps(sieve, "abcdefgh.:", false);
        keeps(sieve, "a+:", false);
        keeps(sieve, "b:", false);
        keeps(sieve, "`:", true);
    }

    /** "in lower case": from A to Z and from a to z. */
    private static void schemeCase() {
        for (char c = 'a'; c <= 'z'; c++) {
            String lower = "" + c;
            String upper = lower.toUpperCase();
            keeps(withAddresses(lower), lower + ":", true);
            keeps(withAddresses(lower), upper + ":", true);
            keeps(withAddresses("q" + lower), "Q" + upper + ":", true);
            keeps(withAddresses("q" + lower), "q" + upper + ":", true);
            keeps(withAddresses("q"), upper + ":", c == 'q');
        }
        keeps(withAddresses("abcdefgh"), "ABCDEFGH:", true);
        keeps(withAddresses("abcdefgh"), "ABCDEFGHI:", false);
    }

    /** A value is what its references give. */
    private static void schemeOfReferences() {
        Sieve sieve = withAddresses("http");
        keeps(sieve, "j&#58;", false);
        keeps(sieve, "&#106;:", false);
        keeps(sieve, "&#32;j:", false);
        keeps(sieve, "&#104;ttp&#58;", true);
        keeps(sieve, "&amp;#106;:", true);
        keeps(sieve, "j&amp;:", true);
        keeps(sieve, "j&colon;", true);
    }

    /** "which schemes are allowed": none .. four of them. */
    private static void schemesOfFour() {
        String[] schemes = {"a", "http", "zzzzzzzz", "bb"};
        Sieve sieve = withAddresses();
        for (int count = 0; count <= 4; count++) {
            for (int i = 0; i < 4; i++) {
                keeps(sieve, schemes[i] + ":x", i < count);
            }
            if (count < 4) {
                Sieves.allowSchemes(sieve, schemes[count]);
            }
        }
        sieve.scheme(Sieves.pack("fifth"));
        keeps(sieve, "fifth:", false);
        keeps(sieve, "x", true);
    }

    /** Each value is looked at for itself, and is not read on into the next. */
    private static void valuesApart() {
        Sieve sieve = Sieves.allow(Sieves.keeping("b"), 'b', "hirs");
        makes(sieve, "<b h=j i=:x></b>", "<b h=\"j\" i=\":x\"></b>");
        makes(sieve, "<b h='' i=j:></b>", "<b h=\"\" i=\"j:\"></b>");
        makes(sieve, "<b h=' ' i=j:></b>", "<b h=\" \" i=\"j:\"></b>");
        makes(sieve, "<b h=x: r=x></b>", "<b r=\"x\"></b>");
        makes(sieve, "<b h=x r=x:></b>", "<b h=\"x\"></b>");
        makes(sieve, "<b h=x: r=x: s=x:></b>", "<b s=\"x:\"></b>");
        makes(sieve, "<b h=j></b><b r=:></b>", "<b h=\"j\"></b><b r=\":\"></b>");
    }
}
