/** Speaks to a MarkupSieve in strings, and draws its tree. */
final class Sieves {
    private Sieves() {}

    static long pack(String characters) {
        long packed = 0;
        for (int i = 0; i < characters.length(); i++) {
            packed |= (long) characters.charAt(i) << (8 * i);
        }
        return packed;
    }

    static String unpack(long packed) {
        StringBuilder characters = new StringBuilder();
        for (int b = 0; b < 8; b++) {
            char c = (char) (packed >>> (8 * b) & 255);
            if (c != 0) {
                characters.append(c);
            }
        }
        return characters.toString();
    }

    /** Makes the string the input. */
    static void feed(MarkupSieve sieve, String input) {
        sieve.wipe();
        for (int i = 0; i < input.length(); i += 8) {
            String piece = input.substring(i, Math.min(i + 8, input.length()));
            if (!sieve.put(pack(piece))) {
                throw new IllegalStateException("put refused '" + piece + "' of " + input);
            }
        }
    }

    static MarkupSieve cleaned(String input) {
        MarkupSieve sieve = new MarkupSieve();
        feed(sieve, input);
        sieve.clean();
        return sieve;
    }

    /** Gives all letters of a string an action. */
    static MarkupSieve act(MarkupSieve sieve, int what, String letters) {
        for (char c : letters.toCharArray()) {
            Check.yes("action " + c, sieve.action(number(c), what));
        }
        return sieve;
    }

    static MarkupSieve keeping(String letters) {
        return act(new MarkupSieve(), MarkupSieve.KEEP, letters);
    }

    static int number(char c) {
        return c - 'a';
    }

    static String output(MarkupSieve sieve) {
        StringBuilder all = new StringBuilder();
        for (int k = 0; k <= 25; k++) {
            all.append(unpack(sieve.output(k)));
        }
        return all.toString();
    }

    static String text(MarkupSieve sieve, int i) {
        StringBuilder all = new StringBuilder();
        for (int k = 0; k <= 25; k++) {
            all.append(unpack(sieve.text(i, k)));
        }
        return all.toString();
    }

    static String value(MarkupSieve sieve, int i, int a) {
        StringBuilder all = new StringBuilder();
        for (int k = 0; k <= 25; k++) {
            all.append(unpack(sieve.value(i, a, k)));
        }
        return all.toString();
    }

    /** What clean() makes of the string: the output, or "REJECTED", and behind it the rounds. */
    static String clean(MarkupSieve sieve, String input) {
        feed(sieve, input);
        int size = sieve.clean();
        String output = output(sieve);
        if (size != MarkupSieve.REJECTED) {
            Check.same("size of the output of " + input, size, output.length());
            return output + " | " + sieve.rounds();
        }
        Check.same("output of the rejected " + input, output, "");
        return "REJECTED | " + sieve.rounds();
    }

    /**
     * The tree of a string: 'text', !comment!, and elements by their letter (? if unknown, with *
     * before it if foreign), their attributes a="value" in [], and their children in ().
     */
    static String tree(String input) {
        MarkupSieve sieve = cleaned(input);
        StringBuilder drawn = new StringBuilder();
        drawChildren(sieve, 0, 0, drawn);
        return drawn.toString();
    }

    private static int drawChildren(MarkupSieve sieve, int first, int depth, StringBuilder drawn) {
        int i = first;
        while (i < sieve.nodes() && depthOf(sieve, i) == depth) {
            drawn.append(i == first ? "" : " ");
            drawNode(sieve, i, drawn);
            i++;
            if (i < sieve.nodes() && depthOf(sieve, i) > depth) {
                drawn.append('(');
                i = drawChildren(sieve, i, depth + 1, drawn);
                drawn.append(')');
            }
        }
        return i;
    }

    private static int depthOf(MarkupSieve sieve, int i) {
        return sieve.node(i) % 4096 / 128;
    }

    private static void drawNode(MarkupSieve sieve, int i, StringBuilder drawn) {
        int kind = sieve.node(i) % 4;
        if (kind == MarkupSieve.TEXT) {
            drawn.append('\'').append(text(sieve, i)).append('\'');
        } else if (kind == MarkupSieve.COMMENT) {
            drawn.append('!').append(text(sieve, i)).append('!');
        } else {
            int name = sieve.node(i) % 128 / 4;
            drawn.append(sieve.node(i) >= 4096 ? "*" : "");
            drawn.append(name == 26 ? '?' : (char) ('a' + name));
            drawAttributes(sieve, i, drawn);
        }
    }

    private static void drawAttributes(MarkupSieve sieve, int i, StringBuilder drawn) {
        StringBuilder all = new StringBuilder();
        for (int a = 0; a < 26; a++) {
            if (sieve.length(i, a) != MarkupSieve.NONE) {
                String value = value(sieve, i, a);
                Check.same("length of a value", sieve.length(i, a), value.length());
                all.append(all.length() == 0 ? "" : " ");
                all.append((char) ('a' + a)).append("=\"").append(value).append('"');
            }
        }
        if (all.length() > 0) {
            drawn.append('[').append(all).append(']');
        }
    }
}
