/** The edges of REFERENCES; above each method stands the sentence it tests. */
public final class EdgeReferenceTest {
    private static final char FIRST = 32, LAST = 126;
    private static final String[] NAMED = {"&lt;", "&gt;", "&amp;", "&quot;"};
    private static final String GIVEN = "<>&\"";

    private EdgeReferenceTest() {}

    public static void main(String[] args) {
        named();
        cutNamed();
        changedNamed();
        codes();
        digits();
        noDigits();
        behindDigits();
        places();
        joined();
        rawAndComments();
        notReadAgain();
        ofTheFullInput();
        Check.finish();
    }

    /** In a text, in a value in quotes of both kinds, and in one without them. No " may be in it. */
    private static void gives(String characters, String due) {
        Check.same("text " + characters, Sieves.tree(characters), "'" + due + "'");
        Check.same("text x" + characters + "x", Sieves.tree("x" + characters + "x"), "'x" + due + "x'");
        Check.same("value " + characters, value("<b c=\"" + characters + "\">"), due);
        boolean plain = characters.indexOf('\'') < 0;
        if (plain) {
            Check.same("value " + characters, value("<b c='" + characters + "'>"), due);
        }
        if (plain && characters.matches("[^ >]+")) {
            Check.same("value " + characters, value("<b c=" + characters + ">"), due);
        }
    }

    private static String value(String input) {
        return Sieves.value(Sieves.cleaned(input), 0, 2);
    }

    /** ""&lt;", "&gt;", "&amp;", "&quot;" are <, >, & and "". */
    private static void named() {
        for (int i = 0; i < NAMED.length; i++) {
            gives(NAMED[i], "" + GIVEN.charAt(i));
            gives(NAMED[i] + NAMED[i], ("" + GIVEN.charAt(i)).repeat(2));
            gives("&" + NAMED[i], "&" + GIVEN.charAt(i));
            gives(NAMED[i] + ";", GIVEN.charAt(i) + ";");
            gives(NAMED[i] + NAMED[(i + 1) % 4], "" + GIVEN.charAt(i) + GIVEN.charAt((i + 1) % 4));
        }
    }

    /** "All other & stand for themselves": those with one character less, at each place. */
    private static void cutNamed() {
        gives("&", "&");
        gives("&&", "&&");
        gives("&;", "&;");
        for (String whole : NAMED) {
            for (int size = 1; size < whole.length(); size++) {
                gives(whole.substring(0, size), whole.substring(0, size));
                gives(whole.substring(size), whole.substring(size));
            }
            for (int place = 1; place < whole.length(); place++) {
                String less = whole.substring(0, place) + whole.substring(place + 1);
                gives(less, less);
            }
        }
    }

    /** The same with one character more, and with every other character at each place. */
    private static void changedNamed() {
        for (String whole : NAMED) {
            for (int place = 1; place < whole.length(); place++) {
                for (char c = FIRST; c <= LAST; c++) {
                    String other = whole.substring(0, place) + c + whole.substring(place + 1);
                    String more = whole.substring(0, place) + c + whole.substring(place);
                    givesItself(other, whole);
                    givesItself(more, whole);
                }
            }
        }
        // Only in names of elements and attributes is the case of letters the same.
        gives("&LT;", "&LT;");
        gives("&Lt;", "&Lt;");
        gives("&AMP;", "&AMP;");
        gives("&quoT;", "&quoT;");
        gives("&apos;", "&apos;");
        gives("&nbsp;", "&nbsp;");
    }

    private static void givesItself(String characters, String but) {
        boolean one = false;
        for (String whole : NAMED) {
            one |= characters.contains(whole);
        }
        // Markup and quotes are none of a reference's business here.
        if (!one && !characters.matches(".*[<\"].*") && !characters.equals(but)) {
            gives(characters, characters);
        }
    }

    /** "the character of that code if it is 32 .. 126": all codes of one to three digits. */
    private static void codes() {
        for (int code = 0; code <= 999; code++) {
            String due = code >= 32 && code <= 126 ? "" + (char) code : null;
            for (int digits = 1; digits <= 3; digits++) {
                String number = String.format("%0" + digits + "d", code);
                // No code of one digit is 32 .. 126, so one digit can never give a character.
                if (number.length() == digits) {
                    String whole = "&#" + number + ";";
                    gives(whole, due == null ? whole : due);
                }
            }
        }
        gives("&#31;", "&#31;");
        gives("&#32;", " ");
        gives("&#126;", "~");
        gives("&#127;", "&#127;");
    }

    /** "one to three digits": none, and four or more, also where their number would be right. */
    private static void digits() {
        gives("&#;", "&#;");
        gives("&#9;", "&#9;");
        gives("&#65;", "A");
        gives("&#065;", "A");
        gives("&#0065;", "&#0065;");
        gives("&#00065;", "&#00065;");
        gives("&#1000;", "&#1000;");
        gives("&#0126;", "&#0126;");
        // These would be 65 if bits were lost.
        gives("&#321;", "&#321;");
        gives("&#65601;", "&#65601;");
        gives("&#4294967361;", "&#4294967361;");
        gives("&#" + "0".repeat(30) + "65;", "&#" + "0".repeat(30) + "65;");
    }

    /** The characters beside the digits, and all others, in their place. */
    private static void noDigits() {
        for (char c = FIRST; c <= LAST; c++) {
            boolean digit = c >= '0' && c <= '9';
            if (c != '<' && c != '"') {
                String first = "&#" + c + "5;";
                gives(first, c >= '3' && c <= '9' ? "" + (char) (10 * (c - '0') + 5) : first);
                String last = "&#6" + c + ";";
                gives(last, digit ? "" + (char) (60 + c - '0') : last);
                String sign = "&" + c + "65;";
                gives(sign, c == '#' ? "A" : sign);
            }
        }
        gives("&#x41;", "&#x41;");
        gives("&#-65;", "&#-65;");
        gives("&#+65;", "&#+65;");
        gives("&# 65;", "&# 65;");
        gives("&##65;", "&##65;");
    }

    /** "and ";"": every other character behind the digits, or none. */
    private static void behindDigits() {
        gives("&#65", "&#65");
        gives("&#065", "&#065");
        for (char c = FIRST; c <= LAST; c++) {
            if (c != ';' && c != '<' && c != '"') {
                gives("&#65" + c, "&#65" + c);
            }
        }
        gives("&#6;5;", "&#6;5;");
        gives("&#65;;", "A;");
        gives("&#65 ;", "&#65 ;");
    }

    /** "in texts ... and in values": at the beginning, in the middle and at the end of them. */
    private static void places() {
        gives("&lt;x", "<x");
        gives("x&lt;", "x<");
        gives("x&lt;x", "x<x");
        gives("&&lt;", "&<");
        gives("&l&lt;", "&l<");
        gives("&#6&#65;", "&#6A");
        gives("&lt;&#65;&gt;", "<A>");
        reads("<b c=&lt>;", "b[c=\"&lt\"](';')");
        reads("<b c=&lt ;>", "b[c=\"&lt\"]");
        reads("<b c='&lt'>;", "b[c=\"&lt\"](';')");
        reads("<b &lt;=1>", "b");
        reads("<&lt;>", "'<<>'");
    }

    private static void reads(String input, String due) {
        Check.same("tree of " + input, Sieves.tree(input), due);
    }

    /** "as they stand in the input, not in what two texts become that are joined". */
    private static void joined() {
        for (String whole : new String[] {"&lt;", "&amp;", "&#65;", "&#065;"}) {
            for (int place = 1; place < whole.length(); place++) {
                String left = whole.substring(0, place);
                String right = whole.substring(place);
                reads(left + "</b>" + right, "'" + whole + "'");
                reads(left + "</xx>" + right, "'" + whole + "'");
                reads(left + "<!>" + right, "'" + left + "' !! '" + right + "'");
                reads(left + "<b>" + right, "'" + left + "' b('" + right + "')");
                reads(left + "<n>" + right, "'" + left + "' n '" + right + "'");
                String deep = "<b>".repeat(8) + left + "<b>" + right;
                reads(deep, "b(".repeat(8) + "'" + whole + "'" + ")".repeat(8));
            }
        }
        reads("&lt;</b>&gt;", "'<>'");
    }

    /** "not raw ones", and comments are no texts. A raw text is never joined: an END s is behind. */
    private static void rawAndComments() {
        reads("<s>&lt;&#65;</s>&lt;", "s('&lt;&#65;') '<'");
        reads("<v><s>&lt;</s>", "*v(*s('<'))");
        reads("<!--&lt;-->", "!&lt;!");
        reads("<!&lt;>", "!&lt;!");
        reads("<?&#65;>", "!&#65;!");
    }

    /** "What a reference gives is not read again." */
    private static void notReadAgain() {
        gives("&amp;lt;", "&lt;");
        gives("&#38;lt;", "&lt;");
        gives("&amp;#65;", "&#65;");
        gives("&#38;#65;", "&#65;");
        gives("&amp;amp;amp;", "&amp;amp;");
        gives("&#38;#38;", "&#38;");
        reads("&lt;b>x", "'<b>x'");
        reads("<&#98;>", "'<b>'");
        reads("&#60;!--x-->", "'<!--x-->'");
        reads("<b c=&quot;d e&quot;>", "b[c=\"\"d\"]");
        reads("<b c=d&#32;e>", "b[c=\"d e\"]");
        reads("<b c=d&#62;e>", "b[c=\"d>e\"]");
        reads("<b c=\"d&quot;e\">", "b[c=\"d\"e\"]");
        reads("<b c='d&#39;e'>", "b[c=\"d'e\"]");
    }

    /** A reference that ends with the 200th character, and one whose ";" would be the 201st. */
    private static void ofTheFullInput() {
        String text = "x".repeat(196);
        reads(text + "&lt;", "'" + text + "<'");
        reads(text + "x&lt", "'" + text + "x&lt'");
        reads("x".repeat(194) + "&#126;", "'" + "x".repeat(194) + "~'");
        reads("x".repeat(195) + "&#126", "'" + "x".repeat(195) + "&#126'");
        reads("&lt;".repeat(50), "'" + "<".repeat(50) + "'");
    }
}
