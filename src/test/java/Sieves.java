import java.util.function.IntToLongFunction;

/** Speaks to a Sieve in strings, and draws its tree. */
final class Sieves {
    private static final int LETTERS = 26;

    private Sieves() {}

    static long pack(String characters) {
        long packed = 0;
        for (int i = 0; i < characters.length(); i++) {
            packed |= (long) characters.charAt(i) << (8 * i);
        }
        return packed;
    }

    static String unpack(long packed) {
        StringBuilder characters = new StringBuilder();
        for (int b = 0; b < 8; b++) {
            char c = (char) (packed >>> (8 * b) & 255);
            if (c != 0) {
                characters.append(c);
            }
        }
        return characters.toString();
    }

    /** What should be answered for the eight characters from 8 * k on. */
    static long eightOf(String characters, long k) {
        if (k < 0 || 8 * k >= characters.length()) {
            return 0L;
        }
        int from = (int) (8 * k);
        return pack(characters.substring(from, Math.min(from + 8, characters.length())));
    }

    /** Adds the string to the input. */
    static void add(Sieve sieve, String input) {
        for (int i = 0; i < input.length(); i += 8) {
            String piece = input.substring(i, Math.min(i + 8, input.length()));
            if (!sieve.put(pack(piece))) {
                throw new IllegalStateException("put refused '" + piece + "' of " + input);
            }
        }
    }

    /** Makes the string the input. */
    static void feed(Sieve sieve, String input) {
        sieve.wipe();
        add(sieve, input);
    }

    static Sieve cleaned(String input) {
        Sieve sieve = new Sieve();
        feed(sieve, input);
        sieve.clean();
        return sieve;
    }

    /** Gives all letters of a string an action. */
    static Sieve act(Sieve sieve, int what, String letters) {
        for (char c : letters.toCharArray()) {
            Check.yes("action " + c, sieve.action(number(c), what));
        }
        return sieve;
    }

    static Sieve keeping(String letters) {
        return act(new Sieve(), MarkupSieve.KEEP, letters);
    }

    /** Lets elements of a letter ('*' for every one) have all attributes of a string. */
    static Sieve allow(Sieve sieve, char letter, String attributes) {
        int number = letter == '*' ? MarkupSieve.EVERY : number(letter);
        for (char a : attributes.toCharArray()) {
            Check.yes("attribute " + letter + ", " + a, sieve.attribute(number, number(a), true));
        }
        return sieve;
    }

    static Sieve allowSchemes(Sieve sieve, String... schemes) {
        for (String scheme : schemes) {
            Check.yes("scheme " + scheme, sieve.scheme(pack(scheme)));
        }
        return sieve;
    }

    static int number(char c) {
        return c - 'a';
    }

    static String output(Sieve sieve) {
        return readOn(sieve::output);
    }

    static String text(Sieve sieve, int i) {
        return readOn(k -> sieve.text(i, k));
    }

    static String value(Sieve sieve, int i, int a) {
        return readOn(k -> sieve.value(i, a, k));
    }

    /** No character is 0, so the first eight that are all 0 are behind the end. */
    private static String readOn(IntToLongFunction eights) {
        StringBuilder all = new StringBuilder();
        long eight = eights.applyAsLong(0);
        for (int k = 1; eight != 0; k++) {
            all.append(unpack(eight));
            eight = eights.applyAsLong(k);
        }
        return all.toString();
    }

    /** What clean() makes of the string: the output, or "REJECTED", and behind it the rounds. */
    static String clean(Sieve sieve, String input) {
        feed(sieve, input);
        return cleanInput(sieve);
    }

    static String cleanInput(Sieve sieve) {
        int size = sieve.clean();
        String output = output(sieve);
        if (size != MarkupSieve.REJECTED) {
            Check.same("size of the output " + output, size, output.length());
            return output + " | " + sieve.rounds();
        }
        Check.same("output of what is rejected", output, "");
        return "REJECTED | " + sieve.rounds();
    }

    /** The tree of a string, as drawTree draws it. */
    static String tree(String input) {
        return drawTree(cleaned(input));
    }

    /**
     * Draws the tree: 'text', !comment!, and elements by their letter (? if unknown, with * before
     * it if foreign), their attributes a="value" in [], and their children in ().
     */
    static String drawTree(Sieve sieve) {
        StringBuilder drawn = new StringBuilder();
        int nodes = sieve.nodes();
        int depth = 0;
        for (int i = 0; i < nodes; i++) {
            int code = sieve.node(i);
            int itsDepth = code % 4096 / 128;
            drawn.append(itsDepth > depth ? "(" : ")".repeat(depth - itsDepth));
            drawn.append(itsDepth > depth || i == 0 ? "" : " ");
            drawNode(sieve, i, code, drawn);
            depth = itsDepth;
        }
        return drawn.append(")".repeat(depth)).toString();
    }

    private static void drawNode(Sieve sieve, int i, int code, StringBuilder drawn) {
        int kind = code % 4;
        if (kind == MarkupSieve.TEXT) {
            drawn.append('\'').append(text(sieve, i)).append('\'');
        } else if (kind == MarkupSieve.COMMENT) {
            drawn.append('!').append(text(sieve, i)).append('!');
        } else {
            int name = code % 128 / 4;
            drawn.append(code >= 4096 ? "*" : "");
            drawn.append(name == LETTERS ? '?' : (char) ('a' + name));
            drawAttributes(sieve, i, drawn);
        }
    }

    private static void drawAttributes(Sieve sieve, int i, StringBuilder drawn) {
        StringBuilder all = new StringBuilder();
        // Many elements with all their letters would be more calls than an object has.
        Sieve asked = sieve.callsLeft() < 200 ? sieve.again() : sieve;
        for (int a = 0; a < LETTERS; a++) {
            int length = asked.length(i, a);
            if (length != MarkupSieve.NONE) {
                String value = value(asked, i, a);
                Check.same("length of a value", length, value.length());
                all.append(all.length() == 0 ? "" : " ");
                all.append((char) ('a' + a)).append("=\"").append(value).append('"');
            }
        }
        if (all.length() > 0) {
            drawn.append('[').append(all).append(']');
        }
    }
}
