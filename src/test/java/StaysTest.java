import java.util.ArrayList;
import java.util.List;
import java.util.function.Consumer;

/**
 * "Nothing is promised beyond the answers and state changes described above": what a call does not
 * name stays as it was.
 */
public final class StaysTest {
    private static final int[] ASKED = {Integer.MIN_VALUE, -1, 0, 1, 2, 25, 26, 199, 200, Integer.MAX_VALUE};
    private static final int C = 'c' - 'a', K = 'k' - 'a';

    private StaysTest() {}

    public static void main(String[] args) {
        cleanLeavesInputAndPolicy();
        putLeavesTheRest();
        actionLeavesTheRest();
        attributeLeavesTheRest();
        schemeLeavesTheRest();
        resetLeavesTheTree();
        askingChangesNothing();
        sameCallsSameAnswers();
        Check.finish();
    }

    /** Does the call on a copy of each sample, and holds these parts of its state against before. */
    private static void stay(String what, Consumer<Sieve> call, String... parts) {
        for (Sieve sieve : Samples.all()) {
            Sieve copy = sieve.again();
            call.accept(copy);
            String before = State.of(sieve);
            String after = State.of(copy);
            for (String part : parts) {
                Check.same(part + " behind " + what, part(after, part), part(before, part));
            }
        }
    }

    private static String part(String state, String name) {
        int from = state.indexOf(name + ":");
        int end = state.indexOf('\n', from);
        return state.substring(from, end < 0 ? state.length() : end);
    }

    /** "Cleans the input": it is the same input then, and so is the policy. */
    private static void cleanLeavesInputAndPolicy() {
        stay("clean", Sieve::clean, "input", "room", "actions", "attributes", "schemes");
        stay("clean twice", sieve -> {
            sieve.clean();
            sieve.clean();
        }, "input", "room", "actions", "attributes", "schemes");
        Sieve sieve = Samples.used();
        sieve.clean();
        String once = State.of(sieve);
        sieve.clean();
        Check.same("cleaned again", State.of(sieve), once);
    }

    /** "Adds the characters ... to the input". */
    private static void putLeavesTheRest() {
        stay("put", sieve -> sieve.put('z'), "latest", "actions", "attributes", "schemes");
        stay("put of nothing", sieve -> sieve.put(0L),
                "latest", "input", "room", "actions", "attributes", "schemes");
    }

    /** "Gives a letter ... an action": what was cleaned before was cleaned by the old one. */
    private static void actionLeavesTheRest() {
        for (int what = MarkupSieve.KEEP; what <= MarkupSieve.DROP; what++) {
            int given = what;
            stay("action", sieve -> Check.yes("action", sieve.action(1, given)),
                    "latest", "room", "attributes", "schemes");
        }
    }

    /** "Elements of a letter, or EVERY element, may have attribute a (0 .. 25) or may not". */
    private static void attributeLeavesTheRest() {
        for (int letter : new int[] {MarkupSieve.EVERY, 0, 1, 25}) {
            stay("attribute", sieve -> Check.yes("may", sieve.attribute(letter, C, true)),
                    "latest", "room", "actions", "schemes");
            stay("attribute", sieve -> Check.yes("may not", sieve.attribute(letter, C, false)),
                    "latest", "room", "actions", "schemes");
        }
    }

    /** "Allows a scheme"; the sample that has four refuses it. */
    private static void schemeLeavesTheRest() {
        stay("scheme", sieve -> sieve.scheme(Sieves.pack("zzz")), "latest", "room", "actions", "attributes");
    }

    /** The tree is read from the input alone, whatever the policy is. */
    private static void resetLeavesTheTree() {
        Sieve sieve = Samples.used();
        sieve.clean();
        String tree = Sieves.drawTree(sieve);
        sieve.reset();
        sieve.clean();
        Check.same("the tree behind reset", Sieves.drawTree(sieve), tree);
        Sieves.act(sieve, MarkupSieve.DROP, "abcdefghijklmnopqrstuvwxyz");
        sieve.clean();
        Check.same("the tree of what is dropped", Sieves.drawTree(sieve), tree);
    }

    /** One that was asked, with right and wrong numbers, goes on as one that was not. */
    private static void askingChangesNothing() {
        for (Sieve sieve : Samples.all()) {
            Sieve asked = sieve.again();
            List<Long> first = askAll(asked);
            Check.same("asked again", askAll(asked), first);
            Sieve other = sieve.again();
            Check.same("put behind asking", asked.put('z'), other.put('z'));
            Check.same("clean behind asking", asked.clean(), other.clean());
            Check.same("answers behind asking", askAll(asked), askAll(other));
            Check.same("scheme behind asking", asked.scheme(Sieves.pack("zz")), other.scheme(Sieves.pack("zz")));
            asked.action(K, MarkupSieve.KEEP);
            other.action(K, MarkupSieve.KEEP);
            String input = "<b c=1 h=http:x>1<i>2</i><s>3</s><k c=4>";
            Check.same("the policy behind asking", Sieves.clean(asked, input), Sieves.clean(other, input));
        }
    }

    private static List<Long> askAll(Sieve sieve) {
        List<Long> answers = new ArrayList<>();
        answers.add((long) sieve.rounds());
        answers.add((long) sieve.nodes());
        for (int i : ASKED) {
            answers.add(sieve.output(i));
            answers.add((long) sieve.node(i));
            answers.add(sieve.text(i, 0));
            answers.add(sieve.text(0, i));
            answers.add((long) sieve.length(i, C));
            answers.add((long) sieve.length(0, i));
            answers.add(sieve.value(i, C, 0));
            answers.add(sieve.value(0, i, 0));
            answers.add(sieve.value(0, C, i));
        }
        return answers;
    }

    /** Two objects with the same calls, one after the other and in turn, answer the same. */
    private static void sameCallsSameAnswers() {
        for (Sieve sieve : Samples.all()) {
            Check.same("the same calls", State.of(sieve.again()), State.of(sieve));
        }
        Sieve one = new Sieve();
        Sieve other = new Sieve();
        Sieves.feed(one, "<v><n>1");
        Sieves.feed(other, "<p>2");
        Sieves.act(one, MarkupSieve.KEEP, "nv");
        Check.same("one", one.clean(), "<v><n>1</n></v>".length());
        Check.same("other", other.clean(), 1);
        Check.same("nodes of one", one.nodes(), 3);
        Check.same("nodes of other", other.nodes(), 2);
        Check.same("output of one", Sieves.output(one), "<v><n>1</n></v>");
        Check.same("output of other", Sieves.output(other), "2");
    }
}
