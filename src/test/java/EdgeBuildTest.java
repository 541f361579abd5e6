/** The edges of NAMES and THE TREE, START and END; above each method stands the sentence it tests. */
public final class EdgeBuildTest {
    private static final String BLOCKS = "dpul", EMPTY = "nm";

    private EdgeBuildTest() {}

    public static void main(String[] args) {
        emptyNames();
        rawName();
        blockNames();
        foreignName();
        bridgeName();
        nothingOpenAtFirst();
        putIntoTheRoot();
        textBehindText();
        alienLists();
        scopeEndsAtForeign();
        closingTakesAllBehind();
        leavingAliens();
        blockClosesParagraph();
        itemClosesItem();
        paragraphBeforeItem();
        anchorClosesAnchor();
        stayingOpen();
        eightOpen();
        eightOpenAndEmpty();
        eightOpenAndRaw();
        eightOpenAfterClosing();
        tail();
        lastOfTheName();
        unknownEnds();
        noneInTheTail();
        endOfParagraph();
        endOfParagraphHasNoAttributes();
        endOfParagraphAtEight();
        Check.finish();
    }

    private static void reads(String input, String due) {
        Check.same("tree of " + input, Sieves.tree(input), due);
    }

    private static boolean isOneOf(char c, String characters) {
        return characters.indexOf(c) >= 0;
    }

    /** What is drawn of a START with a text behind it where the list is not alien. */
    private static String drawn(char c, String text) {
        String inside = isOneOf(c, EMPTY) ? " '" + text + "'" : "('" + text + "')";
        return (c == 'v' ? "*v" : "" + c) + inside;
    }

    /** "n, m are EMPTY ones": each letter. */
    private static void emptyNames() {
        for (char c = 'a'; c <= 'z'; c++) {
            reads("<" + c + ">x", drawn(c, "x"));
            reads("<i><" + c + ">x", "i(" + drawn(c, "x") + ")");
            reads("<v><f><" + c + ">x", "*v(*f(" + drawn(c, "x") + "))");
        }
        reads("<nn>x", "?('x')");
        reads("<mm>x", "?('x')");
    }

    /** "s is the RAW one": each letter. */
    private static void rawName() {
        for (char c = 'a'; c <= 'z'; c++) {
            String due = (c == 'v' ? "*v" : "" + c) + "('<' !!)";
            if (c == 's') {
                due = "s('&lt;<!>')";
            } else if (isOneOf(c, EMPTY)) {
                due = c + " '<' !!";
            }
            reads("<" + c + ">&lt;<!>", due);
        }
        reads("<ss>&lt;", "?('<')");
    }

    /** "d, p, u, l are BLOCKS": each letter behind an open p, and where the list is alien. */
    private static void blockNames() {
        for (char c = 'a'; c <= 'z'; c++) {
            boolean block = isOneOf(c, BLOCKS);
            reads("<p><" + c + ">x", block ? "p " + drawn(c, "x") : "p(" + drawn(c, "x") + ")");
            reads("<v><" + c + ">x", block ? "*v " + c + "('x')" : "*v(*" + c + "('x'))");
        }
        reads("<p><dd>x", "p(?('x'))");
        reads("<v><dd>x", "*v(*?('x'))");
    }

    /** "v is the FOREIGN one": each letter, with an element in it. */
    private static void foreignName() {
        for (char c = 'a'; c <= 'z'; c++) {
            String due = c + "(b('x'))";
            if (c == 'v') {
                due = "*v(*b('x'))";
            } else if (c == 's') {
                due = "s('<b>x')";
            } else if (isOneOf(c, EMPTY)) {
                due = c + " b('x')";
            }
            reads("<" + c + "><b>x", due);
        }
        reads("<vv><b>x", "?(b('x'))");
    }

    /** "f the BRIDGE": each letter in a v, with an element in it. */
    private static void bridgeName() {
        for (char c = 'a'; c <= 'z'; c++) {
            String due = "*v(*" + c + "(*b('x')))";
            if (c == 'f') {
                due = "*v(*f(b('x')))";
            } else if (isOneOf(c, BLOCKS)) {
                due = "*v " + c + "(b('x'))";
            }
            reads("<v><" + c + "><b>x", due);
        }
        reads("<v><ff><b>x", "*v(*?(*b('x')))");
        reads("<f><b>x", "f(b('x'))");
    }

    /** "at first it has none": each clean() begins with nothing open and no raw text due. */
    private static void nothingOpenAtFirst() {
        for (String before : new String[] {"<b>", "<b>".repeat(8), "<v>", "<v><f>", "<s>", "<b c='", "<!--", "x", ""}) {
            Sieve sieve = Sieves.cleaned(before);
            Sieves.clean(sieve, "x<b>y");
            Check.same("tree behind " + before, Sieves.drawTree(sieve), "'x' b('y')");
        }
    }

    /** "of the root if none is open": before, between and behind the elements. */
    private static void putIntoTheRoot() {
        reads("x", "'x'");
        reads("<!x>", "!x!");
        reads("<b></b>x", "b 'x'");
        reads("x<b></b>y<b></b>z", "'x' b 'y' b 'z'");
        reads("<b><i></b><!x>", "b(i) !x!");
        reads("", "");
    }

    /** "a text put directly behind a text is one with it", and no other one. */
    private static void textBehindText() {
        reads("x</b>y", "'xy'");
        reads("x</b></i></xx>y", "'xy'");
        reads("x</b>y</b>z", "'xyz'");
        reads("<b>x</i>y</b>z", "b('xy') 'z'");
        reads("x<b></b>y", "'x' b 'y'");
        reads("x<b>y</b>z", "'x' b('y') 'z'");
        reads("x<!>y", "'x' !! 'y'");
        reads("x<n>y", "'x' n 'y'");
        reads("<b>x</b><b>y", "b('x') b('y')");
        reads("<b><i>x</i>y</b>z", "b(i('x') 'y') 'z'");
        // A tag that is cut comes last, so no text can follow it.
        reads("x<b", "'x'");
    }

    /** "the list is alien if its last element is foreign and not named f": none, v, f in v, f. */
    private static void alienLists() {
        reads("<n>x", "n 'x'");
        reads("<v><n>x", "*v(*n('x'))");
        reads("<v><f><n>x", "*v(*f(n 'x'))");
        reads("<f><n>x", "f(n 'x')");
        reads("<v><f></f><n>x", "*v(*f *n('x'))");
        reads("<v><f><b></b><n>x", "*v(*f(b n 'x'))");
        reads("<v><f><v><n>x", "*v(*f(*v(*n('x'))))");
        reads("<v><f><v><f><n>x", "*v(*f(*v(*f(n 'x'))))");
        reads("<v><f><f><n>x", "*v(*f(f(n 'x')))");
        reads("<v><b><f><n>x", "*v(*b(*f(n 'x')))");
        reads("<v></v><n>x", "*v n 'x'");
        reads("<b><v></v><n>x", "b(*v n 'x')");
    }

    /** "as far back as they are not foreign (none if the last one is)". */
    private static void scopeEndsAtForeign() {
        reads("<a><b><a>", "a(b) a");
        reads("<a><v><f><a>", "a(*v(*f(a)))");
        reads("<a><v><f><b><a>", "a(*v(*f(b(a))))");
        reads("<a><v><f><a><b><a>", "a(*v(*f(a(b) a)))");
        reads("<a><v></v><a>", "a(*v) a");
        reads("<a><v><a>", "a(*v(*a))");
        // The last one is the f: an a before it, foreign too, is in no scope.
        reads("<v><a><f><a>x", "*v(*a(*f(a('x'))))");
        reads("<v><a><f><a>x</a>y", "*v(*a(*f(a('x') 'y')))");
        reads("<a><v><a><f><a>x", "a(*v(*a(*f(a('x')))))");
        reads("<v><f><p><b><p>", "*v(*f(p(b) p))");
        reads("<p><v><f><d>", "p(*v(*f(d)))");
        reads("<p><v><f><b><d>", "p(*v(*f(b(d))))");
        reads("<l><v><f><l>", "l(*v(*f(l)))");
        reads("<l><v><f><b><l>", "l(*v(*f(b(l))))");
    }

    /** "To close an element is to take it, and all behind it, from the list." */
    private static void closingTakesAllBehind() {
        reads("<b></b>x", "b 'x'");
        reads("<b><i></b>x", "b(i) 'x'");
        reads("<b><i><k></b>x", "b(i(k)) 'x'");
        reads("<e><b><i></b>x", "e(b(i) 'x')");
        reads("<b>" + "<i>".repeat(7) + "</b>x", "b(" + "i(".repeat(6) + "i" + ")".repeat(7) + " 'x'");
        reads("<b><i></b></i>x", "b(i) 'x'");
        reads("<p><b><i><d>x</i>y", "p(b(i)) d('xy')");
    }

    /** "its last element is closed until the list is not alien any more": none .. eight. */
    private static void leavingAliens() {
        for (char block : BLOCKS.toCharArray()) {
            String start = "<" + block + ">x";
            String own = block + "('x')";
            reads(start, own);
            for (int aliens = 1; aliens <= 8; aliens++) {
                String nested = "*v(".repeat(aliens - 1) + "*v" + ")".repeat(aliens - 1);
                reads("<v>".repeat(aliens) + start, nested + " " + own);
            }
            reads("<v><f>" + start, "*v(*f(" + own + "))");
            reads("<v><f><v><b>" + start, "*v(*f(*v(*b) " + own + "))");
            reads("<v><f><v><f><v>" + start, "*v(*f(*v(*f(*v " + own + "))))");
            reads("<b><v><i>" + start, "b(*v(*i) " + own + ")");
            reads("<v><f></f>" + start, "*v(*f) " + own);
        }
        reads("<v><b>x", "*v(*b('x'))");
        reads("<v><n><m><d>x", "*v(*n(*m)) d('x')");
    }

    /**
     * "a block closes the last p in the scope": none, the last element, one before others. No call
     * can bring two p into one scope, since a p is a block too.
     */
    private static void blockClosesParagraph() {
        for (char block : BLOCKS.toCharArray()) {
            String start = "<" + block + ">x";
            String own = block + "('x')";
            reads("<b>" + start, "b(" + own + ")");
            reads("<p>" + start, "p " + own);
            reads("<p><b>" + start, "p(b) " + own);
            reads("<p><b><i>" + start, "p(b(i)) " + own);
            reads("<b><p>" + start, "b(p " + own + ")");
            reads("<b><p><i>" + start, "b(p(i) " + own + ")");
            reads("<p><v><f><p><b>" + start, "p(*v(*f(p(b) " + own + ")))");
            reads("<p></p>" + start, "p " + own);
            reads("<p><v>" + start, "p(*v) " + own);
        }
        reads("<p><b>x", "p(b('x'))");
        reads("<p><v><f><b>x", "p(*v(*f(b('x'))))");
        reads("<p><n>x", "p(n 'x')");
        reads("<p><pp>x", "p(?('x'))");
    }

    /** "l closes the last element in the scope that is named l or u, if that is an l". */
    private static void itemClosesItem() {
        reads("<l>x", "l('x')");
        reads("<l><l>x", "l l('x')");
        reads("<u><l>x", "u(l('x'))");
        reads("<u><l><l>x", "u(l l('x'))");
        reads("<l><u><l>x", "l(u(l('x')))");
        reads("<l><u><l><l>x", "l(u(l l('x')))");
        reads("<u><u><l>x", "u(u(l('x')))");
        reads("<l><b><l>x", "l(b) l('x')");
        reads("<l><b><i><l>x", "l(b(i)) l('x')");
        reads("<l><u><b><l>x", "l(u(b(l('x'))))");
        reads("<u><l><b><l>x", "u(l(b) l('x'))");
        reads("<u><l></l><l>x", "u(l l('x'))");
        reads("<l><u></u><l>x", "l(u) l('x')");
        reads("<l><v><f><l><l>x", "l(*v(*f(l l('x'))))");
        reads("<l><ll><l>x", "l(?) l('x')");
        // Only l does this, neither u nor d.
        reads("<l><u>x", "l(u('x'))");
        reads("<l><d>x", "l(d('x'))");
        reads("<u><u>x", "u(u('x'))");
    }

    /**
     * "after that": the p goes first, and what l closes is looked for in what is left. No call can
     * tell this from the other order: a u or l closes the p before it, so none lies in a p of the
     * same scope.
     */
    private static void paragraphBeforeItem() {
        reads("<p><l>x", "p l('x')");
        reads("<l><p><l>x", "l(p) l('x')");
        reads("<u><p><l>x", "u(p l('x'))");
        reads("<u><l><p><l>x", "u(l(p) l('x'))");
        reads("<l><u><p><b><l>x", "l(u(p(b) l('x')))");
        reads("<p><u><l>x", "p u(l('x'))");
        reads("<l><p><u><l>x", "l(p u(l('x')))");
    }

    /** "a closes the last a in the scope". No call can bring two a into one scope. */
    private static void anchorClosesAnchor() {
        reads("<a>x", "a('x')");
        reads("<a><a>x", "a a('x')");
        reads("<a><b><a>x", "a(b) a('x')");
        reads("<b><a><i><k><a>x", "b(a(i(k)) a('x'))");
        reads("<a></a><a>x", "a a('x')");
        reads("<a><aa><a>x", "a(?) a('x')");
        reads("<a><b>x", "a(b('x'))");
        reads("<a><d><a>x", "a(d) a('x')");
        reads("<a><v><f><a>x", "a(*v(*f(a('x'))))");
        reads("<v><a><a>x", "*v(*a(*a('x')))");
        reads("<b><b>x", "b(b('x'))");
    }

    /** "will STAY OPEN unless its name is an empty one and the list is not alien". */
    private static void stayingOpen() {
        for (char c : EMPTY.toCharArray()) {
            reads("<" + c + ">x</" + c + ">y", c + " 'xy'");
            reads("<v><" + c + ">x</" + c + ">y", "*v(*" + c + "('x') 'y')");
            reads("<v><f><" + c + ">x</" + c + ">y", "*v(*f(" + c + " 'xy'))");
            reads("<v><" + c + "><" + c + ">x", "*v(*" + c + "(*" + c + "('x')))");
        }
        reads("<b/>x", "b('x')");
        reads("<v/>x", "*v('x')");
    }

    /** "If it will and eight elements are open, nothing more is done": seven, eight, nine STARTs. */
    private static void eightOpen() {
        for (int open = 6; open <= 8; open++) {
            for (char c = 'a'; c <= 'z'; c++) {
                String before = "k(".repeat(open);
                // k is neither of those that are closed by another START.
                String inside = open < 8 || isOneOf(c, EMPTY) ? drawn(c, "x") : "'x'";
                reads("<k>".repeat(open) + "<" + c + " e=1>x",
                        before + withAttribute(c, inside) + ")".repeat(open));
            }
            String inside = open < 8 ? "?('x')" : "'x'";
            reads("<k>".repeat(open) + "<kk>x", "k(".repeat(open) + inside + ")".repeat(open));
        }
        reads("<k>".repeat(20) + "x", "k(".repeat(8) + "'x'" + ")".repeat(8));
        reads("<v>".repeat(20) + "x", "*v(".repeat(8) + "'x'" + ")".repeat(8));
        reads("<k>".repeat(9) + "</k>x", "k(".repeat(7) + "k 'x'" + ")".repeat(7));
        reads("<k>".repeat(9) + "</k>".repeat(8) + "x", "k(".repeat(7) + "k" + ")".repeat(7) + " 'x'");
        reads("<k>".repeat(9) + "</k>".repeat(9) + "x", "k(".repeat(7) + "k" + ")".repeat(7) + " 'x'");
    }

    private static String withAttribute(char c, String inside) {
        return inside.startsWith("'") ? inside : inside.replaceFirst("" + c, c + "[e=\"1\"]");
    }

    /** An empty one does not stay open, so eight do not hinder it, unless the list is alien. */
    private static void eightOpenAndEmpty() {
        for (char c : EMPTY.toCharArray()) {
            String seven = "<k>".repeat(7);
            String drawnSeven = "k(".repeat(7);
            reads(seven + "<k><" + c + "><" + c + ">x", drawnSeven + "k(" + c + " " + c + " 'x')" + ")".repeat(7));
            reads(seven + "<v><" + c + ">x", drawnSeven + "*v('x')" + ")".repeat(7));
            reads("<v>".repeat(7) + "<" + c + ">x", "*v(".repeat(7) + "*" + c + "('x')" + ")".repeat(7));
            reads("<v>".repeat(7) + "<f><" + c + ">x", "*v(".repeat(7) + "*f(" + c + " 'x')" + ")".repeat(7));
        }
    }

    /** "a raw text is due" only if the s was put, and "the list was not alien when it was put". */
    private static void eightOpenAndRaw() {
        String raw = "<s>&lt;</s>";
        reads("<k>".repeat(7) + raw, "k(".repeat(7) + "s('&lt;')" + ")".repeat(7));
        reads("<k>".repeat(8) + raw, "k(".repeat(8) + "'<'" + ")".repeat(8));
        reads("<k>".repeat(8) + "<s><!-->--></s>x", "k(".repeat(8) + "!>! 'x'" + ")".repeat(8));
        reads("<v>" + raw, "*v(*s('<'))");
        reads("<v><s><b>x</s>y", "*v(*s(*b('x')) 'y')");
        reads("<v><f>" + raw, "*v(*f(s('&lt;')))");
        reads("<v><s><f>" + raw, "*v(*s(*f(s('&lt;'))))");
        reads("<v>".repeat(7) + "<f>" + raw, "*v(".repeat(7) + "*f('<')" + ")".repeat(7));
    }

    /** What a START closes is closed before the eight are counted. */
    private static void eightOpenAfterClosing() {
        String seven = "<k>".repeat(7);
        String drawnSeven = "k(".repeat(7);
        for (char c : "apl".toCharArray()) {
            String twice = "<" + c + ">x<" + c + ">y";
            reads(seven + twice, drawnSeven + c + "('x') " + c + "('y')" + ")".repeat(7));
        }
        reads(seven + "<u>x<l>y", drawnSeven + "u('xy')" + ")".repeat(7));
        reads(seven + "<v>x<d>y", drawnSeven + "*v('x') d('y')" + ")".repeat(7));
        reads("<p>" + seven + "<d>x", "p(" + "k(".repeat(6) + "k" + ")".repeat(7) + " d('x')");
        reads("<p>" + seven + "<k>x", "p(" + "k(".repeat(7) + "'x'" + ")".repeat(8));
        // Eight are open and the p in them is too far back: d is not put, and nothing is closed.
        String full = "<p><v><f>" + "<k>".repeat(5);
        reads(full + "<d>x", "p(*v(*f(" + "k(".repeat(5) + "'x'" + ")".repeat(8));
        reads(full + "<d>x</k>y", "p(*v(*f(" + "k(".repeat(4) + "k('x') 'y'" + ")".repeat(7));
    }

    /** "the TAIL is made of the last open elements, as far back as they are all foreign or all not". */
    private static void tail() {
        reads("<b><i>x</b>y", "b(i('x')) 'y'");
        reads("<b><v>x</b>y", "b(*v('xy'))");
        reads("<b><v>x</v>y</b>z", "b(*v('x') 'y') 'z'");
        reads("<v><b><i>x</v>y", "*v(*b(*i('x'))) 'y'");
        reads("<v><f>x</v>y", "*v(*f('x')) 'y'");
        reads("<v><f>x</f>y", "*v(*f('x') 'y')");
        reads("<v><f><b>x</f>y", "*v(*f(b('xy')))");
        reads("<v><f><b>x</v>y", "*v(*f(b('xy')))");
        reads("<v><f><b>x</b>y</f>z", "*v(*f(b('x') 'y') 'z')");
        reads("<i><v><f><b>x</i>y", "i(*v(*f(b('xy'))))");
        reads("<f><v><f><k>x</f>y", "f(*v(*f(k('xy'))))");
        reads("<v><f><v>x</f>y", "*v(*f(*v('x')) 'y')");
        reads("<v><f><k></k><v>x</f>y", "*v(*f(k *v('x')) 'y')");
        reads("<v>" + "<i>".repeat(7) + "x</v>y", "*v(" + "*i(".repeat(7) + "'x'" + ")".repeat(8) + " 'y'");
    }

    /** "The last element of this name in the tail is closed": of one, two, three. */
    private static void lastOfTheName() {
        reads("<b>x</b>y", "b('x') 'y'");
        reads("<b><b>x</b>y", "b(b('x') 'y')");
        reads("<b><b><b>x</b>y", "b(b(b('x') 'y'))");
        reads("<b><i><b><i>x</b>y", "b(i(b(i('x')) 'y'))");
        reads("<b><b>x</b>y</b>z", "b(b('x') 'y') 'z'");
        reads("<v><b><b>x</b>y", "*v(*b(*b('x') 'y'))");
    }

    /** "(an unknown name closes the last unknown one)". */
    private static void unknownEnds() {
        reads("<xx>x</yy>y", "?('x') 'y'");
        reads("<xx><b>x</yyy>y", "?(b('x')) 'y'");
        reads("<xx><yy>x</xx>y", "?(?('x') 'y')");
        reads("<xx><v>x</xx>y", "?(*v('xy'))");
        reads("<v><xx>x</yy>y", "*v(*?('x') 'y')");
        reads("<b>x</bb>y", "b('xy')");
        reads("<xx>x</x>y", "?('xy')");
    }

    /** "Otherwise nothing": none of the name in the tail. */
    private static void noneInTheTail() {
        for (char c = 'a'; c <= 'z'; c++) {
            if (c != 'p' && c != 'k') {
                reads("</" + c + ">x", "'x'");
                reads("<k></" + c + ">x", "k('x')");
                reads("<k></k></" + c + ">x", "k 'x'");
            }
        }
        reads("</xx>x", "'x'");
        reads("<k></xx>x", "k('x')");
        reads("<n></n>x", "n 'x'");
    }

    /** "If there is none, the name is p, and the list is not alien: a START p ... is done". */
    private static void endOfParagraph() {
        reads("</p>x", "p 'x'");
        reads("<p></p>x", "p 'x'");
        reads("<p></p></p>x", "p p 'x'");
        reads("<p><b></p>x", "p(b) 'x'");
        reads("<k></p>x", "k(p 'x')");
        reads("</p c=1>x", "p 'x'");
        reads("</pp>x", "'x'");
        reads("<v></p>x", "*v('x')");
        reads("<v><k></p>x", "*v(*k('x'))");
        reads("<p><v></p>x", "p(*v('x'))");
        reads("<v><f></p>x", "*v(*f(p 'x'))");
        reads("<p><v><f></p>x", "p(*v(*f(p 'x')))");
        reads("<v><f><k></p>x", "*v(*f(k(p 'x')))");
        reads("<p><v><f><k></p>x", "p(*v(*f(k(p 'x'))))");
        reads("<l></p>x", "l(p 'x')");
        reads("<a></p>x", "a(p 'x')");
    }

    /** "a START p without attributes": neither those of the END nor those of other elements. */
    private static void endOfParagraphHasNoAttributes() {
        reads("</p c=1>", "p");
        reads("<b c=1></b></p>", "b[c=\"1\"] p");
        reads("</p><b c=1>", "p b[c=\"1\"]");
        reads("<b c=1></p c=2><i c=3>", "b[c=\"1\"](p i[c=\"3\"])");
        Sieve sieve = Sieves.cleaned("<b c=1 d=2><i e=3>x");
        Sieves.clean(sieve, "</p></p><b c=4 d=5>");
        Check.same("behind another tree", Sieves.drawTree(sieve), "p p b[c=\"4\" d=\"5\"]");
        Sieve kept = Sieves.allow(Sieves.keeping("bp"), '*', "c");
        Sieves.clean(kept, "<p c=1><b c=2></b></p>");
        Check.same("written", Sieves.clean(kept, "</p><b c=3></b>"), "<p></p><b c=\"3\"></b> | 2");
    }

    /** "and the p is closed if it is open then": it is not if eight were open. */
    private static void endOfParagraphAtEight() {
        for (int open = 6; open <= 8; open++) {
            String inside = open < 8 ? "p 'x'" : "'x'";
            reads("<k>".repeat(open) + "</p>x", "k(".repeat(open) + inside + ")".repeat(open));
            String full = "<p><v>" + "<k>".repeat(open - 3) + "<f>";
            String drawn = "p(*v(" + "*k(".repeat(open - 3) + "*f(" + inside + ")".repeat(open);
            reads(full + "</p>x", drawn);
        }
        reads("<k>".repeat(7) + "<p></p>x", "k(".repeat(7) + "p 'x'" + ")".repeat(7));
        reads("<k>".repeat(8) + "</p>x</k>y", "k(".repeat(7) + "k('x') 'y'" + ")".repeat(7));
    }
}
