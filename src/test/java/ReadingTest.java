/** The document's terms: tokens, references and how the tree is made (Sieves.tree draws it). */
public final class ReadingTest {
    private ReadingTest() {}

    public static void main(String[] args) {
        raw();
        comments();
        names();
        attributes();
        values();
        unended();
        plainText();
        references();
        joinedTexts();
        foreign();
        leavingForeign();
        paragraphs();
        items();
        anchors();
        emptyElements();
        eightOpen();
        ends();
        endParagraph();
        Check.finish();
    }

    private static void reads(String input, String due) {
        Check.same("tree of " + input, Sieves.tree(input), due);
    }

    private static void raw() {
        reads("<s>a<b>&lt;</s>c", "s('a<b>&lt;') 'c'");
        reads("<S>a</S>c", "s('a') 'c'");
        reads("<s></s>c", "s 'c'");
        reads("<s>", "s");
        reads("<s>a", "s('a')");
        reads("<s>a</s", "s('a')");
        reads("<s>a</s/>c", "s('a') 'c'");
        reads("<s>a</s b>c", "s('a') 'c'");
        reads("<s>a</s b", "s('a')");
        reads("<s>a</sb></s>c", "s('a</sb>') 'c'");
        reads("<s>a</s1></s>c", "s('a</s1>') 'c'");
        reads("<s>a</ s></s>c", "s('a</ s>') 'c'");
        reads("<s>a</</s>c", "s('a</') 'c'");
        reads("<s><!--</s>c-->", "s('<!--') 'c-->'");
        reads("<s/>a</s>c", "s('a') 'c'");
        reads("<s x='>'>a<s></s>c", "s[x=\">\"]('a<s>') 'c'");
        reads("<s1>a<b></s>c", "s('a<b>') 'c'");
        reads("<ss>a<b>", "?('a' b)");
        reads("<v><s>a<b>&lt;</s>c", "*v(*s('a' *b('<')) 'c')");
        reads("<v><f><s>a<b></s>c", "*v(*f(s('a<b>') 'c'))");
        Sieve sieve = Sieves.cleaned("<s>");
        Sieves.clean(sieve, "<b>x");
        Check.same("no raw text is due in the next input", sieve.nodes(), 2);
    }

    private static void comments() {
        reads("<!--a-->b", "!a! 'b'");
        reads("<!---->b", "!! 'b'");
        reads("<!-->b-->c", "!>b! 'c'");
        reads("<!--->b-->c", "!->b! 'c'");
        reads("<!--a--b->-->c", "!a--b->! 'c'");
        reads("<!--a--->c", "!a-! 'c'");
        reads("<!--a--", "!a--!");
        reads("<!--", "!!");
        reads("<!-a>b", "!-a! 'b'");
        reads("<!-", "!-!");
        reads("<!>b", "!! 'b'");
        reads("<!", "!!");
        reads("<!a<b>c", "!a<b! 'c'");
        reads("<?a?>b", "!a?! 'b'");
        reads("<?", "!!");
        reads("<?b", "!b!");
        reads("</>b", "!! 'b'");
        reads("</ a>b", "! a! 'b'");
        reads("</1>b", "!1! 'b'");
        reads("</", "!!");
        reads("</<b>c", "!<b! 'c'");
        reads("<!--&lt;-->", "!&lt;!");
        reads("<!&lt;>", "!&lt;!");
        reads("<b><!a></b>", "b(!a!)");
    }

    private static void names() {
        reads("<b>", "b");
        reads("<B>", "b");
        reads("<z>", "z");
        reads("<bb>", "?");
        reads("<bB/>", "?");
        reads("<b1>", "b");
        reads("<b=c>", "b");
        reads("<b/>x", "b('x')");
        reads("<b////>x", "b('x')");
        reads("<b    >x", "b('x')");
        reads("<b<c>x", "b('x')");
        reads("<b></B>x", "b 'x'");
        reads("<b></b/ x='>'>x", "b 'x'");
    }

    private static void attributes() {
        reads("<b c>", "b[c=\"\"]");
        reads("<b C>", "b[c=\"\"]");
        reads("<b/c>", "b[c=\"\"]");
        reads("<b c/d>", "b[c=\"\" d=\"\"]");
        reads("<b z y>", "b[y=\"\" z=\"\"]");
        reads("<b c=1 c=2>", "b[c=\"1\"]");
        reads("<b c C=2>", "b[c=\"\"]");
        reads("<b cc=1>", "b");
        reads("<b 1=1>", "b");
        reads("<b cc=1 c=2>", "b[c=\"2\"]");
        reads("<b =c>", "b");
        reads("<b = c>", "b[c=\"\"]");
        reads("<b ==c>", "b");
        reads("<b ===c d>", "b[d=\"\"]");
        reads("<b c==d>", "b[c=\"=d\"]");
        reads("<b \"c=1>", "b");
        reads("<b \" c=1>", "b[c=\"1\"]");
        reads("<b c\">", "b");
        reads("<b <c>x", "b('x')");
        reads("<b c / =1>", "b[c=\"\"]");
        reads("<bb c=1>", "?[c=\"1\"]");
    }

    private static void values() {
        reads("<b c=1>", "b[c=\"1\"]");
        reads("<b c = 1>", "b[c=\"1\"]");
        reads("<b c   =   '1'>", "b[c=\"1\"]");
        reads("<b c=\"1>2\">", "b[c=\"1>2\"]");
        reads("<b c='1\"2'>", "b[c=\"1\"2\"]");
        reads("<b c=\"1'2\">", "b[c=\"1'2\"]");
        reads("<b c=''>", "b[c=\"\"]");
        reads("<b c=>", "b[c=\"\"]");
        reads("<b c= >", "b[c=\"\"]");
        reads("<b c=/>", "b[c=\"/\"]");
        reads("<b c=1/d>", "b[c=\"1/d\"]");
        reads("<b c=1\"2'3>", "b[c=\"1\"2'3\"]");
        reads("<b c=1<2>3", "b[c=\"1<2\"]('3')");
        reads("<b c='1'd='2'>", "b[c=\"1\" d=\"2\"]");
        reads("<b c='1'd>", "b[c=\"1\" d=\"\"]");
        reads("<b c=d=e>", "b[c=\"d=e\"]");
        reads("<b c= d>", "b[c=\"d\"]");
        reads("<b c='&lt;&amp;lt;&#65;&x;'>", "b[c=\"<&lt;A&x;\"]");
        reads("<b c=&quot;d>", "b[c=\"\"d\"]");
        reads("<b c=&lt>;", "b[c=\"&lt\"](';')");
        reads("<b c='&lt'd=;>", "b[c=\"&lt\" d=\";\"]");
    }

    private static void unended() {
        String[] lost = {
            "<b", "<b ", "<b/", "<b c", "<b c=", "<b c= ", "<b c=1", "<b c='1", "<b c='1'", "<b c='1>2<b>",
            "<b c=\"'>x", "</b", "</b ", "</bb c", "</b c='>", "<bb", "</p", "<s"
        };
        for (String input : lost) {
            reads(input, "");
            reads("a" + input, "'a'");
            reads("<i>" + input, "i");
        }
    }

    private static void plainText() {
        reads("a", "'a'");
        reads("<", "'<'");
        reads("<<", "'<<'");
        reads("< b>", "'< b>'");
        reads("<1>", "'<1>'");
        reads("<>", "'<>'");
        reads("a>b", "'a>b'");
        reads("<<b>", "'<' b");
        reads("<=/b>", "'<=/b>'");
        reads("\"'=/!?-~ ", "'\"'=/!?-~ '");
    }

    private static void references() {
        reads("&lt;&gt;&amp;&quot;", "'<>&\"'");
        reads("&#32;&#126;&#65;&#065;", "' ~AA'");
        reads("&#31;&#127;&#000;&#0;&#999;", "'&#31;&#127;&#000;&#0;&#999;'");
        reads("&#0065;&#;&#x41;&#6a;", "'&#0065;&#;&#x41;&#6a;'");
        reads("&lt &lt&#65 ", "'&lt &lt&#65 '");
        reads("&LT;&Lt;&apos;&", "'&LT;&Lt;&apos;&'");
        reads("&&lt;&;&#", "'&<&;&#'");
        reads("&amp;lt;&#38;lt;&amp;#65;", "'&lt;&lt;&#65;'");
        reads("&lt;b&gt;", "'<b>'");
        reads("&#6<b>5;", "'&#6' b('5;')");
    }

    private static void joinedTexts() {
        reads("a</b>c", "'ac'");
        reads("&l</b>t;", "'&lt;'");
        reads("&am</b>p;lt;", "'&amp;lt;'");
        reads("a<b></b>c", "'a' b 'c'");
        reads("<b>a</b>c", "b('a') 'c'");
        reads("a<!>c", "'a' !! 'c'");
        reads("a<n>c</n>d", "'a' n 'cd'");
        reads("<b>a<i>c</i>d</i>e</b>f", "b('a' i('c') 'de') 'f'");
    }

    private static void foreign() {
        reads("<v><b>1</b>2</v>3", "*v(*b('1') '2') '3'");
        reads("<v><v><b>", "*v(*v(*b))");
        reads("<v><f><b><i>", "*v(*f(b(i)))");
        reads("<f><b>", "f(b)");
        reads("<f><v><b>", "f(*v(*b))");
        reads("<v><f><v><b>", "*v(*f(*v(*b)))");
        reads("<v><f><f><b>", "*v(*f(f(b)))");
        reads("<v><b><f><b>", "*v(*b(*f(b)))");
        reads("<v><xx><b>", "*v(*?(*b))");
        reads("<b><v></v><i>", "b(*v i)");
        reads("<v>a<!b>", "*v('a' !b!)");
    }

    private static void leavingForeign() {
        for (String block : new String[] {"d", "p", "u", "l"}) {
            reads("<v><b><" + block + ">x", "*v(*b) " + block + "('x')");
            reads("<i><v><v><" + block + ">", "i(*v(*v) " + block + ")");
            reads("<v><f><" + block + ">", "*v(*f(" + block + "))");
            reads("<v><f><v><b><" + block + ">", "*v(*f(*v(*b) " + block + "))");
        }
        reads("<v><a><c>", "*v(*a(*c))");
        reads("<p><v><p>x", "p(*v) p('x')");
        reads("<p><v><f><p>x", "p(*v(*f(p('x'))))");
        reads("<l><v><l>x", "l(*v) l('x')");
        reads("<v><xx><d>", "*v(*?) d");
    }

    private static void paragraphs() {
        for (String block : new String[] {"d", "p", "u", "l"}) {
            reads("<p>a<" + block + ">b", "p('a') " + block + "('b')");
            reads("<p><b><i><" + block + ">c", "p(b(i)) " + block + "('c')");
            reads("<d><p><b><" + block + ">c", "d(p(b) " + block + "('c'))");
        }
        reads("<p>a<b>c", "p('a' b('c'))");
        reads("<p><v><f><d>", "p(*v(*f(d)))");
        reads("<p><v><f><p><p>", "p(*v(*f(p p)))");
        reads("<p><n><d>", "p(n) d");
    }

    private static void items() {
        reads("<u><l>a<l>b", "u(l('a') l('b'))");
        reads("<u><l><b>a<l>b", "u(l(b('a')) l('b'))");
        reads("<u><l><u><l>b", "u(l(u(l('b'))))");
        reads("<u><l><u><l>a</u><l>b", "u(l(u(l('a'))) l('b'))");
        reads("<l><d><l>", "l(d) l");
        reads("<l><p><l>", "l(p) l");
        reads("<p><l><u><l>", "p l(u(l))");
        reads("<l><v><f><l>", "l(*v(*f(l)))");
        reads("<l><u><u><l><l>", "l(u(u(l l)))");
        reads("<p><u><l><p><l>a", "p u(l(p) l('a'))");
        reads("<l><u>", "l(u)");
    }

    private static void anchors() {
        reads("<a>1<a>2", "a('1') a('2')");
        reads("<a><b><i><a>2", "a(b(i)) a('2')");
        reads("<a><p><d><a>2", "a(p d) a('2')");
        reads("<a><v><a><a>", "a(*v(*a(*a)))");
        reads("<a><v><f><a><a>", "a(*v(*f(a a)))");
        reads("<a c=1><A d=2>", "a[c=\"1\"] a[d=\"2\"]");
        reads("<aa><aa>", "?(?)");
    }

    private static void emptyElements() {
        reads("<n>x<m c=1>y", "n 'x' m[c=\"1\"] 'y'");
        reads("<n></n>x", "n 'x'");
        reads("<v><n>x<m>y", "*v(*n('x' *m('y')))");
        reads("<v><n>x</n>y", "*v(*n('x') 'y')");
        reads("<v><f><n>x", "*v(*f(n 'x'))");
    }

    private static void eightOpen() {
        String seven = "<b>".repeat(7);
        String drawnSeven = "b(".repeat(7);
        reads(seven + "<i>x<i>y", drawnSeven + "i('xy')" + ")".repeat(7));
        reads(seven + "<i><n>y", drawnSeven + "i(n 'y')" + ")".repeat(7));
        reads(seven + "<i><s>y<u>", drawnSeven + "i('y')" + ")".repeat(7));
        reads(seven + "<i><!y>", drawnSeven + "i(!y!)" + ")".repeat(7));
        reads(seven + "<a>1<a c>2", drawnSeven + "a('1') a[c=\"\"]('2')" + ")".repeat(7));
        reads(seven + "<i></p>x", drawnSeven + "i('x')" + ")".repeat(7));
        reads(seven + "<p></p>x", drawnSeven + "p 'x'" + ")".repeat(7));
        reads(seven + "<v><n>x", drawnSeven + "*v('x')" + ")".repeat(7));
        reads(seven + "<v><p>x", drawnSeven + "*v p('x')" + ")".repeat(7));
        reads(seven + "<i><i></i>x</i>y", drawnSeven + "i 'xy'" + ")".repeat(7));
        reads("<p>" + "<b>".repeat(7) + "<i>x", "p(" + "b(".repeat(7) + "'x'" + ")".repeat(8));
        reads("<p>" + "<b>".repeat(7) + "<d>x", "p(" + "b(".repeat(6) + "b" + ")".repeat(7) + " d('x')");
        reads(seven + "<i><i c='1'><n d='2'>", drawnSeven + "i(n[d=\"2\"])" + ")".repeat(7));
    }

    private static void ends() {
        reads("<b><i>1</b>2", "b(i('1')) '2'");
        reads("<b>1</i>2", "b('12')");
        reads("<b><b>1</b>2</b>3", "b(b('1') '2') '3'");
        reads("<xx><b>1</yy>2", "?(b('1')) '2'");
        reads("<xx><yy>1</zz>2", "?(?('1') '2')");
        reads("<b>1</bb>2", "b('12')");
        reads("<xx>1</x>2", "?('12')");
        reads("<b><v>1</b>2", "b(*v('12'))");
        reads("<b><v>1</v>2</b>3", "b(*v('1') '2') '3'");
        reads("<v><f><b>1</v>2", "*v(*f(b('12')))");
        reads("<v><f><b>1</f>2", "*v(*f(b('12')))");
        reads("<v><f><b>1</b></v>2", "*v(*f(b('1'))) '2'");
        reads("<v><f>1</f>2", "*v(*f('1') '2')");
        reads("<v><f><v>1</v></v>2", "*v(*f(*v('1'))) '2'");
        reads("<f><v>1</f>2", "f(*v('12'))");
        reads("<v><b><i>1</b>2", "*v(*b(*i('1')) '2')");
        reads("<b></b c=1>2", "b '2'");
        reads("</v></b></xx>1", "'1'");
    }

    private static void endParagraph() {
        reads("</p>", "p");
        reads("</P c=1>x", "p 'x'");
        reads("a</p>b", "'a' p 'b'");
        reads("<p>a</p>b", "p('a') 'b'");
        reads("<p><b>a</p>b", "p(b('a')) 'b'");
        reads("<b></p>a", "b(p 'a')");
        reads("<v></p>a", "*v('a')");
        reads("<p><v></p>a", "p(*v('a'))");
        reads("<p><v><f></p>a", "p(*v(*f(p 'a')))");
        reads("<v><f></p>a", "*v(*f(p 'a'))");
        reads("<v><f><b></p>a", "*v(*f(b(p 'a')))");
        String full = "<p><v>" + "<b>".repeat(5) + "<f>";
        reads(full + "</p>a", "p(*v(" + "*b(".repeat(5) + "*f('a')" + ")".repeat(7));
        reads("</pp>", "");
    }
}
