import java.util.Random;
import java.util.Set;
import java.util.TreeSet;

/**
 * Cleans all short rows of tags and many made-up inputs, the same ones each time, and holds all
 * answers against the model.
 */
public final class ModelTest {
    private static final String[] PIECES = {
        "<", "</", ">", "/>", " ", "=", "\"", "'", "/", "&", ";", "&lt;", "&gt;", "&amp;", "&quot;",
        "&#60;", "&#31;", "&#126;", "&#127;", "&#0065;", "&#3", "&LT;", "<!--", "-->", "--", "<!", "<?",
        "</ ", "<1", "x", "y", "1", " h=", " h='ja:x'", " r=\"http:y\"", " H=\" Http:z\"", " o=1", " c",
        " c=\"&quot;<\"", " d='\"&amp;'", "<s>", "</s>", "</S ", "</s", "<S/>", "</p>", "<xx>", "</yy>",
        "<v>", "</v>", "<f>", "</f>", "<n>", "<m/>", "</n>", "<l>", "<u>", "</u>", "</l>", "<a>", "</a>",
    };
    private static final String[] TAGS = {
        "<a>", "<b>", "<p>", "<d>", "<l>", "<u>", "<v>", "<f>", "<n>", "<s>", "</a>", "</p>", "</u>", "</v>", "</f>",
        "</n>", "</s>", "<xx>", "</yy>", "x"
    };
    private static final int TAGS_IN_A_ROW = 4;
    /** What an input begins with, and the characters that then stand in all rows. */
    private static final String[][] BEGINS = {
        {"", "<>/!?-bp "}, {"x<", "</>bBp!s"}, {"<b ", "c=\"'>/ d"}, {"<b c", "= \"'>/&x"}, {"<s>", "</sS> x"},
        {"<!--", "-<>! x"}, {"", "&#36;lt"}, {"<b c=", "&#36;gt>"}, {"&", "quotamp;"}
    };
    private static final int CHARACTERS_IN_A_ROW = 5;
    private static final String TAG_LETTERS = "abdflmnpsuv";
    // So few that an object stays far below the calls that the document speaks of.
    private static final int INPUTS_EACH = 3;
    private static final int CALLS_FOR_A_NODE = 110;
    private static final int[] NOTED_ROUNDS = new int[7];
    // What the second round reads has kept elements alone, so what it writes reads as its own tree.
    private static final int MOST_ROUNDS_NEEDED = 3;

    private ModelTest() {}

    public static void main(String[] args) {
        int turns = args.length > 0 ? Integer.parseInt(args[0]) : 20000;
        Random random = new Random(args.length > 1 ? Long.parseLong(args[1]) : 20261115L);
        for (String kept : new String[] {"", "apnlu", "abdflmnpuv"}) {
            compareRowsOfTags(kept);
        }
        for (String[] begin : BEGINS) {
            compareRowsOfCharacters(begin[0], begin[1]);
        }
        for (int turn = 0; turn < turns && Check.failures() < 10; turn++) {
            Sieve sieve = new Sieve();
            Model model = new Model();
            choosePolicy(random, sieve, model);
            for (int time = 0; time < INPUTS_EACH; time++) {
                compare(sieve, model, makeInput(random));
            }
        }
        for (int rounds = 1; rounds <= 6; rounds++) {
            boolean due = rounds <= MOST_ROUNDS_NEEDED;
            Check.same("an input takes " + rounds + " rounds", NOTED_ROUNDS[rounds] > 0, due);
        }
        Check.finish();
    }

    private static void compareRowsOfTags(String kept) {
        Sieve sieve = Sieves.act(Sieves.keeping(kept), MarkupSieve.UNWRAP, "s");
        Model model = new Model();
        model.actions['s' - 'a'] = MarkupSieve.UNWRAP;
        for (char c : kept.toCharArray()) {
            model.actions[c - 'a'] = MarkupSieve.KEEP;
        }
        compareRows(sieve, model, "", TAGS, TAGS_IN_A_ROW);
    }

    private static void compareRowsOfCharacters(String begin, String characters) {
        Sieve sieve = Sieves.allow(Sieves.keeping("bp"), 'b', "cd");
        Model model = new Model();
        model.actions['b' - 'a'] = MarkupSieve.KEEP;
        model.actions['p' - 'a'] = MarkupSieve.KEEP;
        model.may.put('b' - 'a', new TreeSet<>(Set.of('c' - 'a', 'd' - 'a')));
        compareRows(sieve, model, begin, characters.split(""), CHARACTERS_IN_A_ROW);
    }

    /** All rows of so many pieces, counted through as numbers whose digits are the pieces. */
    private static void compareRows(Sieve sieve, Model model, String begin, String[] pieces, int size) {
        int rows = 1;
        for (int i = 0; i < size; i++) {
            rows *= pieces.length;
        }
        for (int row = 0; row < rows && Check.failures() < 10; row++) {
            StringBuilder input = new StringBuilder(begin);
            for (int rest = row + rows; rest > 1; rest /= pieces.length) {
                input.append(pieces[rest % pieces.length]);
            }
            compare(sieve.again(), model, input.toString());
            compare(sieve.again(), model, input + "x");
        }
    }

    private static void choosePolicy(Random random, Sieve sieve, Model model) {
        int kept = random.nextInt(11);
        for (int letter = 0; letter < 26; letter++) {
            int what = random.nextInt(10) < kept ? 0 : random.nextInt(6) == 0 ? 2 : 1;
            if (sieve.action(letter, what)) {
                model.actions[letter] = what;
            }
        }
        for (int i = random.nextInt(12); i > 0; i--) {
            int letter = random.nextInt(27) - 1;
            int a = "chdro".charAt(random.nextInt(5)) - 'a';
            if (sieve.attribute(letter, a, true)) {
                model.may.computeIfAbsent(letter, k -> new TreeSet<>()).add(a);
            }
        }
        if (random.nextBoolean() && sieve.scheme(Sieves.pack("http"))) {
            model.schemes.add("http");
        }
    }

    private static String makeInput(Random random) {
        StringBuilder input = new StringBuilder();
        int limit = random.nextInt(8) == 0 ? 200 : 1 + random.nextInt(100);
        boolean tagsAlone = random.nextBoolean();
        while (input.length() < limit) {
            input.append(makePiece(random, tagsAlone));
        }
        input.setLength(limit);
        return input.toString();
    }

    private static String makePiece(Random random, boolean tagsAlone) {
        int choice = random.nextInt(tagsAlone ? 6 : 10);
        String letter = "" + TAG_LETTERS.charAt(random.nextInt(TAG_LETTERS.length()));
        if (choice < 3) {
            return "<" + letter + ">";
        }
        if (choice == 3) {
            return "</" + letter + ">";
        }
        if (choice == 4) {
            return "" + (char) ('w' + random.nextInt(3));
        }
        if (choice == 9) {
            return "" + (char) (32 + random.nextInt(95));
        }
        return tagsAlone ? "</p>" : PIECES[random.nextInt(PIECES.length)];
    }

    private static void compare(Sieve sieve, Model model, String input) {
        Sieves.feed(sieve, input);
        model.clean(input);
        int due = model.output == null ? MarkupSieve.REJECTED : model.output.length();
        Check.same("clean of " + input, sieve.clean(), due);
        Check.same("rounds of " + input, sieve.rounds(), model.rounds);
        Check.same("output of " + input, Sieves.output(sieve), model.output == null ? "" : model.output);
        Check.same("nodes of " + input, sieve.nodes(), model.firstNodes.size());
        Sieve asked = sieve.again();
        for (int i = 0; i < model.firstNodes.size(); i++) {
            asked = asked.callsLeft() < CALLS_FOR_A_NODE ? sieve.again() : asked;
            compareNode(asked, i, model.firstNodes.get(i), input);
        }
        NOTED_ROUNDS[model.rounds]++;
    }

    private static void compareNode(Sieve sieve, int i, Model.Node node, String input) {
        int code = node.kind + 4 * node.name + 128 * Model.depth(node) + (node.foreign ? 4096 : 0);
        Check.same("node " + i + " of " + input, sieve.node(i), code);
        Check.same("text " + i + " of " + input, Sieves.text(sieve, i), node.text);
        for (int a = 0; a < 26; a++) {
            String value = node.values.get(a);
            int due = value == null ? MarkupSieve.NONE : value.length();
            Check.same("length " + i + ", " + a + " of " + input, sieve.length(i, a), due);
            if (value != null) {
                Check.same("value " + i + ", " + a + " of " + input, Sieves.value(sieve, i, a), value);
            }
        }
    }
}
