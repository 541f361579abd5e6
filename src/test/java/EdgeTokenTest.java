import java.util.Arrays;

/** The edges of the five kinds of tokens; above each method stands the sentence it tests. */
public final class EdgeTokenTest {
    private static final char FIRST = 32, LAST = 126;

    private EdgeTokenTest() {}

    public static void main(String[] args) {
        rawEndBehind();
        rawEndLetter();
        rawSizes();
        rawToTheEnd();
        longCommentBegin();
        longCommentEnd();
        longCommentToTheEnd();
        behindLess();
        behindLessSlash();
        shortCommentEnd();
        nameSizes();
        nameCase();
        blanksAndSlashes();
        attributeNameFirst();
        attributeNameEnd();
        equalsBehindBlanks();
        valueFirst();
        valueEnd();
        quotedValueEnd();
        withoutEquals();
        attributesOfNoUse();
        attributesHadBefore();
        allAttributes();
        cutTokens();
        cutByTheFullInput();
        otherCharacters();
        Check.finish();
    }

    private static void reads(String input, String due) {
        Check.same("tree of " + input, Sieves.tree(input), due);
    }

    private static boolean isLetter(char c) {
        return c >= 'a' && c <= 'z' || c >= 'A' && c <= 'Z';
    }

    private static boolean isOneOf(char c, String characters) {
        return characters.indexOf(c) >= 0;
    }

    /** "</s" (or "</S") behind which comes a blank, "/", ">" or the end: every character. */
    private static void rawEndBehind() {
        for (char c = FIRST; c <= LAST; c++) {
            for (String end : new String[] {"</s", "</S"}) {
                boolean ends = isOneOf(c, " />");
                String raw = ends ? "a" : "a" + end + c;
                reads("<s>a" + end + c + "</s>z", "s('" + raw + "') 'z'");
            }
        }
        reads("<s>a</s", "s('a')");
        reads("<s>a</S", "s('a')");
    }

    /** "the next "</s" (or "</S")": every character in the place of the s, and less than that. */
    private static void rawEndLetter() {
        for (char c = FIRST; c <= LAST; c++) {
            boolean ends = isOneOf(c, "sS");
            reads("<s>a</" + c + ">z", ends ? "s('a') 'z'" : "s('a</" + c + ">z')");
        }
        reads("<s>a<", "s('a<')");
        reads("<s>a</", "s('a</')");
        reads("<s>a</>", "s('a</>')");
        reads("<s>a<s>", "s('a<s>')");
        reads("<s>a< /s>", "s('a< /s>')");
        reads("<s>a/s>", "s('a/s>')");
        reads("<s>a<//s>", "s('a<//s>')");
    }

    /** "are one text as they are, if there are any": none, one, two; up to the next of two ends. */
    private static void rawSizes() {
        reads("<s></s>z", "s 'z'");
        reads("<s>a</s>z", "s('a') 'z'");
        reads("<s>&</s>z", "s('&') 'z'");
        reads("<s> </s>z", "s(' ') 'z'");
        reads("<s>ab</s>z", "s('ab') 'z'");
        reads("<s>a</s>b</s>z", "s('a') 'bz'");
        reads("<s></s><s></s>z", "s s 'z'");
        reads("<s>a</s><s>b</s>z", "s('a') s('b') 'z'");
        reads("<s><s><!--<b>&lt;&#65;</b></s>z", "s('<s><!--<b>&lt;&#65;</b>') 'z'");
    }

    /** "or up to the end of the input, are one text ..., if there are any". */
    private static void rawToTheEnd() {
        reads("<s>", "s");
        reads("<s>a", "s('a')");
        reads("<s><b", "s('<b')");
        reads("<s><!--", "s('<!--')");
        String most = "x".repeat(197);
        reads("<s>" + most, "s('" + most + "')");
        reads("<s>" + "x".repeat(194) + "</s", "s('" + "x".repeat(194) + "')");
    }

    /** 2: "<!--" against 3: "<!", which goes up to ">": every character for the two "-". */
    private static void longCommentBegin() {
        for (char c = FIRST; c <= LAST; c++) {
            String second = c == '>' ? "!-! 'x>z'" : "!-" + c + "x! 'z'";
            reads("<!-" + c + "x>z", c == '-' ? "!x>z!" : second);
            String first = c == '>' ? "!! '-x>z'" : "!" + c + "-x! 'z'";
            reads("<!" + c + "-x>z", c == '-' ? "!x>z!" : first);
        }
        reads("<!->z", "!-! 'z'");
        reads("<!-", "!-!");
    }

    /** "up to the next "-->" from there on, which is left out": from behind the "<!--". */
    private static void longCommentEnd() {
        reads("<!---->z", "!! 'z'");
        reads("<!--a-->z", "!a! 'z'");
        reads("<!--ab-->z", "!ab! 'z'");
        reads("<!-->z", "!>z!");
        reads("<!-->-->z", "!>! 'z'");
        reads("<!--->z", "!->z!");
        reads("<!--->-->z", "!->! 'z'");
        reads("<!----->z", "!-! 'z'");
        reads("<!------>z", "!--! 'z'");
        reads("<!--a-->b-->z", "!a! 'b-->z'");
        reads("<!--a->b-->z", "!a->b! 'z'");
        reads("<!--a--b-->z", "!a--b! 'z'");
        reads("<!--a-- >-->z", "!a-- >! 'z'");
        reads("<!--a--!>-->z", "!a--!>! 'z'");
        reads("<!--a- ->-->z", "!a- ->! 'z'");
        reads("<!--<!---->z", "!<!--! 'z'");
        reads("<!--a--><!--b-->z", "!a! !b! 'z'");
    }

    /** "or to the end". */
    private static void longCommentToTheEnd() {
        reads("<!--", "!!");
        reads("<!--a", "!a!");
        reads("<!---", "!-!");
        reads("<!----", "!--!");
        reads("<!--a-", "!a-!");
        reads("<!--a--", "!a--!");
        reads("<!--a-->", "!a!");
        reads("<!--" + "x".repeat(196), "!" + "x".repeat(196) + "!");
        reads("<!--" + "x".repeat(193) + "-->", "!" + "x".repeat(193) + "!");
    }

    /** 3 and 4: what comes behind "<" makes it a comment, a START or a text: every character. */
    private static void behindLess() {
        for (char c = FIRST; c <= LAST; c++) {
            String name = ("" + c).toLowerCase();
            String due = "'<" + c + ">x'";
            if (isOneOf(c, "!?/")) {
                due = "!! 'x'";
            } else if (isOneOf(c, "nNmM")) {
                due = name + " 'x'";
            } else if (isLetter(c)) {
                due = (name.equals("v") ? "*v" : name) + "('x')";
            }
            reads("<" + c + ">x", due);
        }
        reads("<", "'<'");
        reads("<!", "!!");
        reads("<?", "!!");
        reads("<<!", "'<' !!");
        reads("<<b>", "'<' b");
        reads("x<", "'x<'");
    }

    /** ""</" with another character behind it than a letter (or none)": every character, none. */
    private static void behindLessSlash() {
        for (char c = FIRST; c <= LAST; c++) {
            String due = "!" + c + "! 'x'";
            if (c == '>') {
                due = "!! '>x'";
            } else if (isLetter(c)) {
                due = isOneOf(c, "pP") ? "p 'x'" : "'x'";
            }
            reads("</" + c + ">x", due);
        }
        reads("</", "!!");
        reads("x</", "'x' !!");
    }

    /** "from behind these two characters up to the next ">", which is left out, or to the end". */
    private static void shortCommentEnd() {
        for (String begin : new String[] {"<!", "<?", "</"}) {
            reads(begin + ">z", "!! 'z'");
            reads(begin + "1>z", "!1! 'z'");
            reads(begin + "12>z", "!12! 'z'");
            reads(begin + "1>2>z", "!1! '2>z'");
            reads(begin + "1-->z", "!1--! 'z'");
            reads(begin + ">", "!!");
            reads(begin, "!!");
            reads(begin + "1", "!1!");
            reads(begin + "12", "!12!");
            reads(begin + "1".repeat(198), "!" + "1".repeat(198) + "!");
            reads(begin + "1".repeat(197) + ">", "!" + "1".repeat(197) + "!");
            reads(begin + " <b>z", "! <b! 'z'");
        }
    }

    /** "this letter and those that follow at once; names of more than one letter are all one". */
    private static void nameSizes() {
        for (char c = FIRST; c <= LAST; c++) {
            String due = isLetter(c) ? "?('x')" : c == '>' ? "b('>x')" : "b('x')";
            reads("<b" + c + ">x", due);
            String left = isLetter(c) ? "b('x')" : c == '>' ? "b '>x'" : "b 'x'";
            reads("<b></b" + c + ">x", left);
        }
        reads("<b>", "b");
        reads("<bb>", "?");
        reads("<bbb>", "?");
        reads("<b1b>x", "b('x')");
        String longest = "b".repeat(198);
        reads("<" + longest + ">", "?");
        reads("<bb>1</cc>2", "?('1') '2'");
        reads("<bb>1</ccc>2", "?('1') '2'");
        reads("<bb>1</b>2", "?('12')");
        reads("<b>1</bb>2", "b('12')");
    }

    /** "upper and lower case letters are the same in names": the first and last, and beside them. */
    private static void nameCase() {
        for (char c = 'a'; c <= 'z'; c++) {
            String upper = ("" + c).toUpperCase();
            reads("<" + upper + ">x", Sieves.tree("<" + c + ">x"));
            reads("<" + c + "></" + upper + ">x", Sieves.tree("<" + c + "></" + c + ">x"));
            reads("<" + upper + "></" + c + ">x", Sieves.tree("<" + c + "></" + c + ">x"));
            reads("<b " + upper + "=1>", "b[" + c + "=\"1\"]");
        }
        for (char c : new char[] {'@', '[', '`', '{'}) {
            reads("<" + c + ">", "'<" + c + ">'");
            reads("</" + c + ">", "!" + c + "!");
            reads("<b " + c + "=1>", "b");
        }
    }

    /** "again and again: blanks and "/" are passed over; at ">" the token ends": none, one, more. */
    private static void blanksAndSlashes() {
        for (String passed : new String[] {"", " ", "/", "  ", "//", " /", "/ ", " / / ", "/".repeat(197)}) {
            reads("<b" + passed + ">", "b");
        }
        for (String passed : new String[] {" ", "/", "  ", "//", " /", "/ ", " / / "}) {
            reads("<b" + passed + "c" + passed + "d" + passed + ">x", "b[c=\"\" d=\"\"]('x')");
        }
        reads("<b>>x", "b('>x')");
        reads("<b />x", "b('x')");
    }

    /** "its name goes up to the next ... (one character at least, whatever it is)". */
    private static void attributeNameFirst() {
        for (char c = FIRST; c <= LAST; c++) {
            String lower = ("" + c).toLowerCase();
            boolean passed = isOneOf(c, " /");
            String due = "b[d=\"\"]";
            if (c == '>') {
                due = "b(' d>')";
            } else if (isLetter(c) && !lower.equals("d")) {
                String[] both = {lower + "=\"\"", "d=\"\""};
                Arrays.sort(both);
                due = "b[" + both[0] + " " + both[1] + "]";
            }
            reads("<b " + c + " d>", due);
            String valued = isLetter(c) ? "b[" + lower + "=\"1\"]" : c == '>' ? "b('=1>')" : "b";
            reads("<b " + c + "=1>", valued);
            // A name that begins with "=" goes on up to the next one.
            String behind = passed ? "b" : c == '>' ? "b('==1>')" : isLetter(c) ? "b[" + lower + "=\"=1\"]" : "b";
            reads("<b " + c + "==1>", behind);
        }
        reads("<b =>", "b");
        reads("<b = >", "b");
        reads("<b =c>", "b");
        reads("<b = c>", "b[c=\"\"]");
        reads("<b =c=d e>", "b[e=\"\"]");
        reads("<b ==c>", "b");
        reads("<b ===c d>", "b[d=\"\"]");
    }

    /** "up to the next blank, "/", ">" or "="": every character behind a name of one letter. */
    private static void attributeNameEnd() {
        for (char c = FIRST; c <= LAST; c++) {
            String due = "b";
            if (isOneOf(c, " /")) {
                due = "b[c=\"\" d=\"\"]";
            } else if (c == '>') {
                due = "b[c=\"\"]('d>')";
            } else if (c == '=') {
                due = "b[c=\"d\"]";
            }
            reads("<b c" + c + "d>", due);
        }
    }

    /** "if, behind blanks or none, a "=" follows, its value is, behind blanks or none". */
    private static void equalsBehindBlanks() {
        for (String before : new String[] {"", " ", "  ", "     "}) {
            for (String behind : new String[] {"", " ", "  ", "     "}) {
                String equals = before + "=" + behind;
                reads("<b c" + equals + "d>", "b[c=\"d\"]");
                reads("<b c" + equals + "\"d\">", "b[c=\"d\"]");
                reads("<b c" + equals + "'d'>", "b[c=\"d\"]");
                reads("<b c" + equals + ">x", "b[c=\"\"]('x')");
                reads("<b c" + equals + "\"\">", "b[c=\"\"]");
                reads("<b c" + equals, "");
            }
        }
        reads("<b c /=d>", "b[c=\"\"]");
        reads("<b c / = d>", "b[c=\"\" d=\"\"]");
        reads("<b c=/d>", "b[c=\"/d\"]");
    }

    /** "from behind a " or ' ...; or else": every character at the beginning of a value. */
    private static void valueFirst() {
        for (char c = FIRST; c <= LAST; c++) {
            String due = "b[c=\"" + c + "z\"]";
            if (isOneOf(c, "\"'")) {
                due = "";
            } else if (c == ' ') {
                due = "b[c=\"z\"]";
            } else if (c == '>') {
                due = "b[c=\"\"]('z>')";
            }
            reads("<b c=" + c + "z>", due);
        }
    }

    /** "up to the next blank or ">"": every character in a value without quotes. */
    private static void valueEnd() {
        for (char c = FIRST; c <= LAST; c++) {
            String due = "b[c=\"y" + c + "z\"]";
            if (c == ' ') {
                due = "b[c=\"y\" z=\"\"]";
            } else if (c == '>') {
                due = "b[c=\"y\"]('z>')";
            }
            reads("<b c=y" + c + "z>", due);
        }
        reads("<b c=y>", "b[c=\"y\"]");
        String longest = "y".repeat(194);
        reads("<b c=" + longest + ">", "b[c=\"" + longest + "\"]");
    }

    /** "from behind a " or ' up to the next one of the same, which is left out": every character. */
    private static void quotedValueEnd() {
        for (char c = FIRST; c <= LAST; c++) {
            for (char quote : new char[] {'"', '\''}) {
                String due = c == quote ? "b[c=\"y\"]" : "b[c=\"y" + c + "z\"]";
                reads("<b c=" + quote + "y" + c + "z" + quote + ">", due);
            }
        }
        for (String quote : new String[] {"\"", "'"}) {
            reads("<b c=" + quote + quote + ">", "b[c=\"\"]");
            reads("<b c=" + quote + quote + "d>", "b[c=\"\" d=\"\"]");
            reads("<b c=" + quote + "y" + quote + "d>", "b[c=\"y\" d=\"\"]");
            reads("<b c=" + quote + "y" + quote + quote + ">", "b[c=\"y\"]");
            String longest = "y".repeat(192);
            reads("<b c=" + quote + longest + quote + ">", "b[c=\"" + longest + "\"]");
        }
        reads("<b c=\"'\">", "b[c=\"'\"]");
        reads("<b c='\"'>", "b[c=\"\"\"]");
    }

    /** "without "=" the value is empty". */
    private static void withoutEquals() {
        reads("<b c>", "b[c=\"\"]");
        reads("<b c >", "b[c=\"\"]");
        reads("<b c/>", "b[c=\"\"]");
        reads("<b c d=e>", "b[c=\"\" d=\"e\"]");
        reads("<b c \"d\">", "b[c=\"\"]");
        Sieve sieve = Sieves.cleaned("<b c>");
        Check.same("the length of an empty value", sieve.length(0, 2), 0);
        Check.same("an empty value", sieve.value(0, 2, 0), 0L);
    }

    /** "Attributes of an END and those whose name is not one letter are of no use". */
    private static void attributesOfNoUse() {
        reads("<b></b c=1>", "b");
        reads("</p c=1>", "p");
        reads("<b c=1></b c=2><i>", "b[c=\"1\"] i");
        reads("<b c=1>", "b[c=\"1\"]");
        reads("<b cc=1>", "b");
        reads("<b ccc=1>", "b");
        reads("<b 1=1>", "b");
        reads("<b c1=1>", "b");
        reads("<b 1c=1>", "b");
        reads("<b cc=1 c=2>", "b[c=\"2\"]");
    }

    /** "nor is one whose letter the START had before": the first of two, three; others are apart. */
    private static void attributesHadBefore() {
        reads("<b c=1 c=2>", "b[c=\"1\"]");
        reads("<b c=1 c=2 c=3>", "b[c=\"1\"]");
        reads("<b c=1 C=2>", "b[c=\"1\"]");
        reads("<b C=1 c=2>", "b[c=\"1\"]");
        reads("<b c c=2>", "b[c=\"\"]");
        reads("<b c='' c=2>", "b[c=\"\"]");
        reads("<b c=1 d=2 c=3 d=4>", "b[c=\"1\" d=\"2\"]");
        reads("<b c=1><i c=2>", "b[c=\"1\"](i[c=\"2\"])");
        reads("</b c=1><i c=2>", "i[c=\"2\"]");
    }

    /** All 26 attributes of a START at once, from the last letter to the first. */
    private static void allAttributes() {
        StringBuilder input = new StringBuilder("<b");
        StringBuilder due = new StringBuilder("b[");
        for (char c = 'z'; c >= 'a'; c--) {
            input.append(' ').append(c).append('=').append(c);
        }
        for (char c = 'a'; c <= 'z'; c++) {
            due.append(c == 'a' ? "" : " ").append(c).append("=\"").append(c).append('"');
        }
        reads(input + " a=1 z=2>", due + "]");
    }

    /** "If the input ends before the token does, nothing comes of all its characters." */
    private static void cutTokens() {
        String start = "<b c=\"d>\" e='f>' g=h i / j = \"k\" ll=m/ =n >";
        for (int size = 2; size < start.length(); size++) {
            String cut = start.substring(0, size);
            reads(cut, "");
            reads("a" + cut, "'a'");
            reads("<i>a" + cut, "i('a')");
            reads("<v><n>" + cut, "*v(*n)");
        }
        reads(start, "b[c=\"d>\" e=\"f>\" g=\"h\" i=\"\" j=\"k\"]");
        String end = "</p c=\"d>\" e='f>' g=h / i = 'j' >";
        for (int size = 3; size < end.length(); size++) {
            reads(end.substring(0, size), "");
            reads("a" + end.substring(0, size), "'a'");
        }
        reads(end, "p");
        reads("<s", "");
        reads("<ss", "");
        reads("<b c='><i>x</i></b>", "");
        reads("<b c=\"'><i>x</i></b>", "");
    }

    /** The same at the end of an input of 200 characters: the ">" is the 200th, or would be 201st. */
    private static void cutByTheFullInput() {
        String text = "x".repeat(197);
        reads(text + "<b>", "'" + text + "' b");
        reads(text + "x<b", "'" + text + "x'");
        reads(text + "<!>", "'" + text + "' !!");
        reads(text + "x<!", "'" + text + "x' !!");
        reads("x".repeat(196) + "</p>", "'" + "x".repeat(196) + "' p");
        reads("x".repeat(197) + "</p", "'" + "x".repeat(197) + "'");
        reads("x".repeat(199) + "<", "'" + "x".repeat(199) + "<'");
    }

    /** "5 Otherwise a character of a TEXT": every character, alone and between others. */
    private static void otherCharacters() {
        for (char c = FIRST; c <= LAST; c++) {
            reads("" + c, "'" + c + "'");
            reads("1" + c + "1", "'1" + c + "1'");
            reads("<b>" + c, "b('" + c + "')");
        }
        reads(">", "'>'");
        reads("-->", "'-->'");
        reads("<1>", "'<1>'");
        reads("< b>", "'< b>'");
        reads("<<<", "'<<<'");
    }
}
