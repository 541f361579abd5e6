/** The edges of promises 4 to 7; above each method stands the sentence it tests. */
public final class EdgePolicyTest {
    private static final int KEEP = MarkupSieve.KEEP, UNWRAP = MarkupSieve.UNWRAP, DROP = MarkupSieve.DROP;
    private static final int EVERY = MarkupSieve.EVERY;
    private static final int O = 'o' - 'a', S = 's' - 'a';
    private static final int MIN = Integer.MIN_VALUE, MAX = Integer.MAX_VALUE;
    /** Beside 0 .. 25, at the ends of int, and those that would be right if bits were lost. */
    private static final int[] NO_LETTERS = {
        MIN, MIN + 1, MIN + 18, -256, -27, -26, -3, -2, 26, 27, 31, 32, 33, 50, 58, 64, 97, 115, 256, 274,
        1 << 16, 1 << 30, MAX - 1, MAX
    };
    private static final int[] NO_ACTIONS = {MIN, MIN + 1, -3, -2, -1, 3, 4, 5, 256, 257, 1 << 30, MAX - 1, MAX};

    private EdgePolicyTest() {}

    public static void main(String[] args) {
        actionOfEachLetter();
        actionOfNoLetter();
        noAction();
        keptS();
        attributeOfEachLetter();
        attributeOfNoLetter();
        noAttribute();
        attributeO();
        attributeSetTwice();
        schemeSizes();
        schemeLetters();
        schemeGaps();
        schemeAllowedAlready();
        fourSchemes();
        schemeOfSmallestAndLargest();
        reset();
        resetLeavesTheRest();
        Check.finish();
    }

    /** "Gives a letter (0 for a .. 25 for z) an action": each of them, and no other letter. */
    private static void actionOfEachLetter() {
        for (int letter = 0; letter < 26; letter++) {
            for (int what = KEEP; what <= DROP; what++) {
                if (letter != S || what != KEEP) {
                    Sieve sieve = new Sieve();
                    Check.yes("action " + letter + ", " + what, sieve.action(letter, what));
                    String name = (char) ('a' + letter) + "=";
                    String first = name + (letter == S ? "drop" : "unwrap");
                    String due = name + (what == KEEP ? "keep" : what == UNWRAP ? "unwrap" : "drop");
                    String changed = State.of(new Sieve()).replace(" " + first + " ", " " + due + " ");
                    Check.same("action " + letter + ", " + what, State.of(sieve), changed);
                }
            }
        }
    }

    /** "false, changing nothing, when it is not 0 .. 25". -1 is EVERY, which is no letter here. */
    private static void actionOfNoLetter() {
        for (Sieve sieve : Samples.all()) {
            String state = State.of(sieve);
            for (int letter : NO_LETTERS) {
                for (int what : new int[] {KEEP, UNWRAP, DROP, 3, -1}) {
                    String call = "action " + letter + ", " + what;
                    State.staysWhenRefused(call, sieve, state, copy -> copy.action(letter, what));
                }
            }
            State.staysWhenRefused("action of -1", sieve, state, copy -> copy.action(EVERY, UNWRAP));
        }
    }

    /** "false, changing nothing, when ... the action not 0 .. 2". */
    private static void noAction() {
        for (Sieve sieve : Samples.all()) {
            String state = State.of(sieve);
            for (int what : NO_ACTIONS) {
                for (int letter : new int[] {0, 1, S, 25}) {
                    String call = "action " + letter + ", " + what;
                    State.staysWhenRefused(call, sieve, state, copy -> copy.action(letter, what));
                }
            }
        }
    }

    /** "false, changing nothing, when ... it is s and to be kept": r and t beside it may be. */
    private static void keptS() {
        for (Sieve sieve : Samples.all()) {
            State.staysWhenRefused("s kept", sieve, copy -> copy.action(S, KEEP));
        }
        Sieve sieve = new Sieve();
        Check.yes("r kept", sieve.action(S - 1, KEEP));
        Check.yes("t kept", sieve.action(S + 1, KEEP));
        Check.yes("s unwrapped", sieve.action(S, UNWRAP));
        State.staysWhenRefused("an unwrapped s kept", sieve, copy -> copy.action(S, KEEP));
        Check.yes("s dropped", sieve.action(S, DROP));
        State.staysWhenRefused("a dropped s kept", sieve, copy -> copy.action(S, KEEP));
    }

    /**
     * "Elements of a letter, or EVERY element, may have attribute a (0 .. 25) or may not": each of
     * them, and no other. s is never kept, so no call can tell which attributes it may have.
     */
    private static void attributeOfEachLetter() {
        String first = State.of(new Sieve());
        for (int letter = EVERY; letter < 26; letter++) {
            for (int a = 0; a < 26; a++) {
                Sieve sieve = new Sieve();
                String call = "attribute " + letter + ", " + a;
                Check.same(call, sieve.attribute(letter, a, true), a != O);
                boolean shown = letter != S && a != O;
                Check.same(call, State.of(sieve), shown ? withAttribute(first, letter, a) : first);
                Check.yes(call + " not", sieve.attribute(letter, a, false));
                Check.same(call + " not", State.of(sieve), first);
            }
        }
    }

    private static String withAttribute(String state, int letter, int a) {
        String row = letter == EVERY ? " every=" : " " + (char) ('a' + letter) + "=";
        int end = state.indexOf(row, state.indexOf("\nattributes:")) + row.length();
        return state.substring(0, end) + (char) ('a' + a) + state.substring(end);
    }

    /** "false, changing nothing, when one of them is not as said": the letter. */
    private static void attributeOfNoLetter() {
        for (Sieve sieve : Samples.all()) {
            String state = State.of(sieve);
            for (int letter : NO_LETTERS) {
                for (int a : new int[] {0, 2, O, 25, 26}) {
                    staysWithoutAttribute(sieve, state, letter, a, true);
                    staysWithoutAttribute(sieve, state, letter, a, false);
                }
            }
        }
    }

    /** "false, changing nothing, when one of them is not as said": a. -1 stands for no attribute. */
    private static void noAttribute() {
        for (Sieve sieve : Samples.all()) {
            String state = State.of(sieve);
            for (int a : NO_LETTERS) {
                for (int letter : new int[] {EVERY, 0, 1, S, 25}) {
                    staysWithoutAttribute(sieve, state, letter, a, true);
                    staysWithoutAttribute(sieve, state, letter, a, false);
                }
            }
            staysWithoutAttribute(sieve, state, 1, -1, true);
            staysWithoutAttribute(sieve, state, EVERY, -1, false);
        }
    }

    private static void staysWithoutAttribute(Sieve sieve, String state, int letter, int a, boolean may) {
        String call = "attribute " + letter + ", " + a + ", " + may;
        State.staysWhenRefused(call, sieve, state, copy -> copy.attribute(letter, a, may));
    }

    /** "false, changing nothing, when ... a is o and it may": n and p beside it may, o may not. */
    private static void attributeO() {
        for (Sieve sieve : Samples.all()) {
            String state = State.of(sieve);
            for (int letter = EVERY; letter < 26; letter++) {
                staysWithoutAttribute(sieve, state, letter, O, true);
                Sieve copy = sieve.again();
                Check.yes("o may not", copy.attribute(letter, O, false));
                Check.same("o may not", State.of(copy), state);
                Check.yes("n may", copy.attribute(letter, O - 1, true));
                Check.yes("p may", copy.attribute(letter, O + 1, true));
            }
        }
        Sieve sieve = Sieves.keeping("b");
        Sieves.allow(sieve, 'b', "np");
        String due = "<b n=\"1\" p=\"3\"></b> | 2";
        Check.same("o goes, n and p stay", Sieves.clean(sieve, "<b n=1 o=2 p=3>"), due);
    }

    /** What is said of an attribute twice is as if it was said once; nothing is counted. */
    private static void attributeSetTwice() {
        Sieve sieve = Sieves.keeping("b");
        Check.yes("may not, as at first", sieve.attribute(1, 2, false));
        Check.same("may not", Sieves.clean(sieve, "<b c>"), "<b></b> | 2");
        Check.yes("may", sieve.attribute(1, 2, true));
        Check.yes("may again", sieve.attribute(1, 2, true));
        Check.same("may", Sieves.clean(sieve, "<b c>"), "<b c=\"\"></b> | 2");
        Check.yes("may not any more", sieve.attribute(1, 2, false));
        Check.same("may not any more", Sieves.clean(sieve, "<b c>"), "<b></b> | 2");
    }

    /** "of one to eight letters": no letter, one, two, seven, eight. Nine have no place in a long. */
    private static void schemeSizes() {
        for (Sieve sieve : Samples.all()) {
            State.staysWhenRefused("scheme of no letter", sieve, copy -> copy.scheme(0L));
        }
        for (int size = 1; size <= 8; size++) {
            Sieve sieve = Sieves.keeping("b");
            Sieves.allow(sieve, 'b', "h");
            String scheme = "abcdefgh".substring(0, size);
            Check.yes("scheme " + scheme, sieve.scheme(Sieves.pack(scheme)));
            for (int other = 1; other <= 8; other++) {
                String value = "abcdefgh".substring(0, other) + ":";
                boolean kept = Sieves.clean(sieve.again(), "<b h=" + value + ">").contains(value);
                Check.same("scheme " + scheme + " allows " + value, kept, size == other);
            }
        }
    }

    /** "letters a .. z": every byte at every place. */
    private static void schemeLetters() {
        for (int size = 1; size <= 8; size++) {
            for (int place = 0; place < size; place++) {
                for (int c = 1; c < 256; c++) {
                    String before = "k".repeat(place);
                    long letters = Sieves.pack(before + (char) c + "k".repeat(size - place - 1));
                    boolean due = c >= 'a' && c <= 'z';
                    Check.same("scheme with byte " + c, new Sieve().scheme(letters), due);
                }
            }
        }
        for (Sieve sieve : Samples.all()) {
            String state = State.of(sieve);
            String[] wrong = {
                "`", "{", "A", "Z", "@", "[", "1", ":", "+", "-", ".", " ", "\u0001", "\u00e1", "\u00ff", "Http", "httP",
                "http:", "h2", "`bcdefgh", "abcdefg{", "abcdefg\u00e1", "abcdEfgh", "ab cdefg"
            };
            for (String one : wrong) {
                State.staysWhenRefused("scheme " + one, sieve, state, copy -> copy.scheme(Sieves.pack(one)));
            }
        }
    }

    /** "in the lowest bytes of a long": bytes 0 are behind the letters alone. */
    private static void schemeGaps() {
        for (int places = 0; places < 256; places++) {
            StringBuilder eight = new StringBuilder();
            for (int b = 0; b < 8; b++) {
                eight.append((places >> b & 1) != 0 ? (char) ('a' + b) : (char) 0);
            }
            // 1, 3, 7 .. 255: all that are there stand in the lowest places.
            boolean due = places != 0 && (places & places + 1) == 0;
            Check.same("scheme at " + places, new Sieve().scheme(Sieves.pack(eight.toString())), due);
        }
        for (Sieve sieve : Samples.all()) {
            String state = State.of(sieve);
            for (String gap : new String[] {"\0a", "a\0a", "\0\0\0\0\0\0\0z", "abcdef\0h"}) {
                State.staysWhenRefused("scheme with a gap", sieve, state, copy -> copy.scheme(Sieves.pack(gap)));
            }
        }
    }

    /** "false, changing nothing, when it ... is allowed already": one of one .. four. */
    private static void schemeAllowedAlready() {
        String[] schemes = {"a", "aa", "abcdefgh", "zzzzzzzz"};
        Sieve sieve = new Sieve();
        for (int count = 0; count < 4; count++) {
            Sieves.allowSchemes(sieve, schemes[count]);
            String state = State.of(sieve);
            for (int i = 0; i <= count; i++) {
                long again = Sieves.pack(schemes[i]);
                State.staysWhenRefused("scheme again", sieve, state, copy -> copy.scheme(again));
            }
        }
        Sieve other = Sieves.allowSchemes(new Sieve(), "http");
        Check.yes("a shorter one", other.again().scheme(Sieves.pack("htt")));
        Check.yes("a longer one", other.again().scheme(Sieves.pack("https")));
        Check.yes("another first letter", other.again().scheme(Sieves.pack("ittp")));
        Check.yes("another last letter", other.again().scheme(Sieves.pack("htto")));
        Sieve lastOfEight = Sieves.allowSchemes(new Sieve(), "abcdefgh");
        Check.yes("another eighth letter", lastOfEight.scheme(Sieves.pack("abcdefgg")));
    }

    /** "false, changing nothing, when ... four are": the fourth is allowed, the fifth is not. */
    private static void fourSchemes() {
        Sieve sieve = Sieves.allowSchemes(new Sieve(), "a", "b", "c");
        Check.yes("the fourth", sieve.again().scheme(Sieves.pack("d")));
        Check.no("one of three again", sieve.scheme(Sieves.pack("c")));
        Check.no("one that is wrong", sieve.scheme(Sieves.pack("C")));
        Check.yes("the fourth behind refused ones", sieve.scheme(Sieves.pack("d")));
        State.staysWhenRefused("a fifth", sieve, copy -> copy.scheme(Sieves.pack("e")));
        State.staysWhenRefused("one of four", sieve, copy -> copy.scheme(Sieves.pack("d")));
        State.staysWhenRefused("a wrong fifth", sieve, copy -> copy.scheme(0L));
        sieve.reset();
        Check.yes("the fifth behind reset", sieve.scheme(Sieves.pack("e")));
        Check.yes("an old one behind reset", sieve.scheme(Sieves.pack("d")));
        Sieve full = Samples.full();
        State.staysWhenRefused("a fifth of eight letters", full, copy -> copy.scheme(Sieves.pack("abcdefgi")));
    }

    /** "when it is not so": the smallest and the largest long. */
    private static void schemeOfSmallestAndLargest() {
        long[] wrong = {
            Long.MIN_VALUE, Long.MIN_VALUE + 'a', Long.MAX_VALUE, Long.MAX_VALUE - 1, -1L, 1L, 'a' - 1, 'z' + 1
        };
        for (Sieve sieve : Samples.all()) {
            String state = State.of(sieve);
            for (long letters : wrong) {
                State.staysWhenRefused("scheme " + letters, sieve, state, copy -> copy.scheme(letters));
            }
        }
    }

    /** "The policy is as at first", also when it is already, and behind it all can be said anew. */
    private static void reset() {
        Sieve fresh = new Sieve();
        fresh.reset();
        Check.same("reset of a new object", State.of(fresh), State.of(new Sieve()));
        for (Sieve sieve : Samples.all()) {
            Sieve copy = sieve.again();
            copy.reset();
            Check.same("the policy", policyOf(copy), policyOf(new Sieve()));
            copy.reset();
            Check.same("the policy, reset twice", policyOf(copy), policyOf(new Sieve()));
            Sieves.act(copy, KEEP, "b");
            Sieves.allow(copy, '*', "h");
            Sieves.allowSchemes(copy, "http", "a", "b", "c");
            String kept = "<b h=\"http:x\"></b>";
            Check.same("said anew", Sieves.clean(copy, kept), kept + " | 1");
        }
    }

    /** "The policy is as at first", and nothing else is. */
    private static void resetLeavesTheRest() {
        for (Sieve sieve : Samples.all()) {
            String before = State.of(sieve);
            Sieve copy = sieve.again();
            copy.reset();
            String after = State.of(copy);
            String latest = before.substring(0, before.indexOf("\ninput:"));
            Check.same("what was cleaned", after.substring(0, after.indexOf("\ninput:")), latest);
            int room = before.indexOf("\nroom:");
            Check.yes("the room", after.contains(before.substring(room, before.indexOf("\nactions:"))));
        }
        Sieve sieve = new Sieve();
        Sieves.add(sieve, "1<b>2");
        sieve.reset();
        Check.same("the input", Sieves.cleanInput(sieve), "12 | 2");
    }

    private static String policyOf(Sieve sieve) {
        String state = State.of(sieve);
        return state.substring(state.indexOf("\nactions:"));
    }
}
