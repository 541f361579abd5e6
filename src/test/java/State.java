import java.util.function.Predicate;

/**
 * Draws all that calls can tell of an object's state: what the latest clean() left, the input and
 * the policy. Each part is asked of an object made anew, so that asking changes nothing.
 */
final class State {
    private static final String LETTERS = "abcdefghijklmnopqrstuvwxyz";
    private static final String[] SCHEMES = {
        "a", "z", "aa", "ab", "http", "https", "ftp", "abcdefgh", "zzzzzzzz", "b", "c", "d", "e"
    };

    private State() {}

    static String of(Sieve sieve) {
        return "latest: " + latest(sieve.again())
                + "\ninput: " + input(sieve)
                + "\nroom: " + room(sieve.again())
                + "\nactions: " + actions(sieve)
                + "\nattributes: " + attributes(sieve)
                + "\nschemes: " + schemes(sieve);
    }

    /** Tells whether the call is refused, on a copy, and leaves the copy as the object is. */
    static void staysWhenRefused(String what, Sieve sieve, Predicate<Sieve> call) {
        staysWhenRefused(what, sieve, of(sieve), call);
    }

    /** The same, for when the state is drawn already. */
    static void staysWhenRefused(String what, Sieve sieve, String state, Predicate<Sieve> call) {
        Sieve copy = sieve.again();
        Check.no(what, call.test(copy));
        Check.same("the state behind the refused " + what, of(copy), state);
    }

    private static String latest(Sieve sieve) {
        return sieve.rounds() + " | " + Sieves.output(sieve) + " | " + Sieves.drawTree(sieve);
    }

    /** What the input is cleaned to by the policy, and the tree that it is read into. */
    private static String input(Sieve sieve) {
        Sieve copy = sieve.again();
        return Sieves.cleanInput(copy) + " | " + Sieves.drawTree(copy);
    }

    private static int room(Sieve sieve) {
        int room = 0;
        while (room <= 200 && sieve.put('x')) {
            room++;
        }
        return room;
    }

    private static String actions(Sieve sieve) {
        StringBuilder drawn = new StringBuilder();
        for (char c : LETTERS.toCharArray()) {
            Sieve copy = sieve.again();
            boolean isEmpty = c == 'n' || c == 'm';
            // Only a foreign n or m has something in it that could go with it.
            String foreign = isEmpty ? "<v>" : "";
            if (isEmpty) {
                Sieves.act(copy, MarkupSieve.UNWRAP, "v");
            }
            String made = Sieves.clean(copy, foreign + "1<" + c + ">2</" + c + ">");
            boolean kept = made.startsWith("1<" + c + ">");
            drawn.append(c).append(kept ? "=keep " : made.startsWith("12") ? "=unwrap " : "=drop ");
        }
        return drawn.toString();
    }

    /** The letters' own rows, and the row of every element. */
    private static String attributes(Sieve sieve) {
        StringBuilder drawn = new StringBuilder();
        for (char c : LETTERS.toCharArray()) {
            if (c != 's') {
                drawn.append(c).append('=').append(attributesOf(sieve, c, '*')).append(' ');
            }
        }
        return drawn.append("every=").append(attributesOf(sieve, 'b', 'b')).toString();
    }

    /** The attributes that an element has left when those of a letter's (or every) row are gone. */
    private static String attributesOf(Sieve sieve, char letter, char without) {
        Sieve copy = Sieves.act(sieve.again(), MarkupSieve.KEEP, "" + letter);
        int row = without == '*' ? MarkupSieve.EVERY : Sieves.number(without);
        StringBuilder input = new StringBuilder("<" + letter);
        for (char a : LETTERS.toCharArray()) {
            copy.attribute(row, Sieves.number(a), false);
            input.append(' ').append(a);
        }
        String made = Sieves.clean(copy, input + ">");
        String inside = made.substring(2, made.indexOf('>'));
        return inside.replace("=\"\"", "").replace(" ", "");
    }

    private static String schemes(Sieve sieve) {
        StringBuilder drawn = new StringBuilder();
        for (String scheme : SCHEMES) {
            Sieve copy = Sieves.act(sieve.again(), MarkupSieve.KEEP, "b");
            Sieves.allow(copy, 'b', "h");
            boolean allowed = Sieves.clean(copy, "<b h=" + scheme + ":>").contains(" h=");
            drawn.append(allowed ? scheme + " " : "");
        }
        Sieve copy = sieve.again();
        int free = 0;
        while (free <= 4 && copy.scheme(Sieves.pack("free" + LETTERS.charAt(free)))) {
            free++;
        }
        return drawn + "and " + free + " free";
    }
}
