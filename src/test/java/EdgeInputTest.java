/** The edges of promises 1 to 3 and of THE INPUT; above each method stands the sentence it tests. */
public final class EdgeInputTest {
    private static final int MOST = 200;

    private EdgeInputTest() {}

    public static void main(String[] args) {
        calls();
        newObject();
        newObjectHoldsNoNode();
        room();
        roomWithGaps();
        singleBytes();
        bytesAmongOthers();
        smallestAndLargest();
        refusedBytes();
        refusedSizes();
        zeroBytes();
        wipeEmpty();
        wipeFull();
        wipeLeavesTheRest();
        Check.finish();
    }

    /**
     * "An object is used for at most 512 calls after it has been made; what later calls answer is
     * free." So the 512th is still due; no test can say what the 513th answers.
     */
    private static void calls() {
        Sieve sieve = Sieves.keeping("b");
        Sieves.feed(sieve, "<b>x");
        while (sieve.callsLeft() > 4) {
            Check.same("call " + (Sieve.MOST_CALLS - sieve.callsLeft() + 1), sieve.clean(), 8);
        }
        Check.same("call 509", sieve.nodes(), 2);
        Check.yes("call 510", sieve.put('y'));
        Check.same("call 511", sieve.clean(), 9);
        Check.same("call 512", sieve.output(0), Sieves.pack("<b>xy</b"));
        Check.same("calls left", sieve.callsLeft(), 0);
    }

    /**
     * "The input is empty; s is to be dropped, all other letters unwrapped; no attributes and
     * schemes are allowed; nothing was cleaned."
     */
    private static void newObject() {
        String state = State.of(new Sieve());
        StringBuilder actions = new StringBuilder();
        StringBuilder attributes = new StringBuilder();
        for (char c = 'a'; c <= 'z'; c++) {
            actions.append(c).append(c == 's' ? "=drop " : "=unwrap ");
            attributes.append(c == 's' ? "" : c + "= ");
        }
        Check.same("a new object", state, "latest: 0 |  | "
                + "\ninput:  | 1 | "
                + "\nroom: 200"
                + "\nactions: " + actions
                + "\nattributes: " + attributes + "every="
                + "\nschemes: and 4 free");
    }

    /** "nothing was cleaned": so there is no output, no round and no node, whatever is asked. */
    private static void newObjectHoldsNoNode() {
        int[] numbers = {Integer.MIN_VALUE, -1, 0, 1, 25, 26, 199, 200, Integer.MAX_VALUE};
        Sieve sieve = new Sieve();
        Check.same("rounds", sieve.rounds(), 0);
        Check.same("nodes", sieve.nodes(), 0);
        for (int i : numbers) {
            Check.same("output " + i, sieve.output(i), 0L);
            Check.same("node " + i, sieve.node(i), MarkupSieve.NONE);
            Check.same("text " + i, sieve.text(i, 0), 0L);
            Check.same("text 0, " + i, sieve.text(0, i), 0L);
            Check.same("length " + i, sieve.length(i, 0), MarkupSieve.NONE);
            Check.same("length 0, " + i, sieve.length(0, i), MarkupSieve.NONE);
            Check.same("value " + i, sieve.value(i, 0, 0), 0L);
            Check.same("value 0, " + i, sieve.value(0, i, 0), 0L);
            Check.same("value 0, 0, " + i, sieve.value(0, 0, i), 0L);
        }
        sieve.put('x');
        sieve.wipe();
        sieve.put('y');
        Check.same("rounds before clean", sieve.rounds(), 0);
        Check.same("nodes before clean", sieve.nodes(), 0);
        Check.same("output before clean", sieve.output(0), 0L);
    }

    /** "at most 200 characters"; "False ... or there would be more than 200." */
    private static void room() {
        for (int before : new int[] {0, 1, 8, 191, 192, 193, 194, 198, 199, 200}) {
            for (int more = 0; more <= 8; more++) {
                Sieve sieve = new Sieve();
                Sieves.add(sieve, "x".repeat(before));
                boolean due = before + more <= MOST;
                String what = before + " characters and " + more;
                Check.same(what, sieve.put(Sieves.pack("y".repeat(more))), due);
                String all = "x".repeat(before) + "y".repeat(due ? more : 0);
                Check.same(what, Sieves.cleanInput(sieve), all + " | 1");
            }
        }
    }

    /** "bytes 0 are left out": they take none of the 200 places. */
    private static void roomWithGaps() {
        Sieve sieve = new Sieve();
        Sieves.add(sieve, "x".repeat(198));
        Check.no("three among bytes 0", sieve.put(Sieves.pack("y\0y\0\0\0\0y")));
        Check.yes("two among bytes 0", sieve.put(Sieves.pack("\0y\0\0\0\0\0y")));
        Check.no("one more in the highest byte", sieve.put(Sieves.pack("\0\0\0\0\0\0\0y")));
        Check.no("one more in the lowest byte", sieve.put(Sieves.pack("y")));
        Check.yes("none when it is full", sieve.put(0L));
        Check.same("200", Sieves.cleanInput(sieve), "x".repeat(198) + "yy | 1");
    }

    /** "characters, 32 .. 126"; "another byte is not 32 .. 126": every byte at every place. */
    private static void singleBytes() {
        for (int c = 0; c < 256; c++) {
            for (int b = 0; b < 8; b++) {
                Sieve sieve = new Sieve();
                boolean due = c == 0 || c >= 32 && c <= 126;
                Check.same("byte " + c + " at " + b, sieve.put((long) c << (8 * b)), due);
                sieve.clean();
                String text = due && c != 0 ? "" + (char) c : "";
                Check.same("byte " + c + " at " + b, Sieves.text(sieve, 0), text);
            }
        }
    }

    /** The same with seven that are right beside it: none of them goes in with a wrong one. */
    private static void bytesAmongOthers() {
        for (int c : new int[] {1, 31, 32, 33, 125, 126, 127, 128, 159, 160, 254, 255}) {
            for (int b = 0; b < 8; b++) {
                Sieve sieve = new Sieve();
                String eight = "xxxxxxxx".substring(b) + (char) c + "x".repeat(b);
                eight = eight.substring(eight.length() - 8);
                boolean due = c >= 32 && c <= 126;
                Check.same("byte " + c + " among others", sieve.put(Sieves.pack(eight)), due);
                sieve.clean();
                Check.same("byte " + c + " among others", Sieves.text(sieve, 0), due ? eight : "");
            }
        }
    }

    /** The smallest and the largest long, and those around 0. */
    private static void smallestAndLargest() {
        Sieve sieve = new Sieve();
        Check.no("the smallest long", sieve.put(Long.MIN_VALUE));
        Check.no("the next one", sieve.put(Long.MIN_VALUE + 1));
        Check.no("the largest long", sieve.put(Long.MAX_VALUE));
        Check.no("the one before", sieve.put(Long.MAX_VALUE - 1));
        Check.no("-1", sieve.put(-1L));
        Check.yes("0", sieve.put(0L));
        Check.no("1", sieve.put(1L));
        Check.no("eight times 31", sieve.put(0x1F1F1F1F1F1F1F1FL));
        Check.yes("eight times 32", sieve.put(0x2020202020202020L));
        Check.yes("eight times 126", sieve.put(0x7E7E7E7E7E7E7E7EL));
        Check.no("eight times 127", sieve.put(0x7F7F7F7F7F7F7F7FL));
        Check.no("eight times 128", sieve.put(0x8080808080808080L));
        Check.same("what went in", Sieves.cleanInput(sieve), "        ~~~~~~~~ | 1");
    }

    /** "False, changing nothing, when another byte is not 32 .. 126". */
    private static void refusedBytes() {
        long[] wrong = {
            1L, 31L, 127L, 255L, -1L, Long.MIN_VALUE, Long.MAX_VALUE, Sieves.pack("abcdefg\u001f"),
            Sieves.pack("abcdefg\u007f"), Sieves.pack("\u001fbcdefgh"), Sieves.pack("a\0\u0080\0b")
        };
        for (Sieve sieve : Samples.all()) {
            String state = State.of(sieve);
            for (long characters : wrong) {
                String what = "put " + Long.toHexString(characters);
                State.staysWhenRefused(what, sieve, state, copy -> copy.put(characters));
            }
        }
    }

    /** "False, changing nothing, when ... there would be more than 200." */
    private static void refusedSizes() {
        for (int before = 193; before <= MOST; before++) {
            Sieve sieve = Samples.used();
            sieve.wipe();
            Sieves.add(sieve, "x".repeat(before));
            String tooMany = "y".repeat(MOST + 1 - before);
            State.staysWhenRefused("put of 201", sieve, copy -> copy.put(Sieves.pack(tooMany)));
            State.staysWhenRefused("put of more", sieve, copy -> copy.put(Sieves.pack("yyyyyyyy")));
            String wrongToo = tooMany.substring(1) + "\u007f";
            State.staysWhenRefused("put of a wrong one", sieve, copy -> copy.put(Sieves.pack(wrongToo)));
        }
    }

    /** "the lowest first ...; bytes 0 are left out", wherever they stand. */
    private static void zeroBytes() {
        for (int places = 0; places < 256; places++) {
            StringBuilder eight = new StringBuilder();
            StringBuilder due = new StringBuilder();
            for (int b = 0; b < 8; b++) {
                boolean there = (places >> b & 1) != 0;
                eight.append(there ? (char) ('a' + b) : (char) 0);
                due.append(there ? (char) ('a' + b) : "");
            }
            Sieve sieve = new Sieve();
            Check.yes("put with bytes 0", sieve.put(Sieves.pack(eight.toString())));
            Check.same("put with bytes 0", Sieves.cleanInput(sieve), due + " | 1");
        }
    }

    /** "Makes the input empty", also when it is. */
    private static void wipeEmpty() {
        Sieve sieve = new Sieve();
        sieve.wipe();
        Check.same("a new object wiped", State.of(sieve), State.of(new Sieve()));
        sieve.put('x');
        sieve.wipe();
        sieve.wipe();
        Check.same("wiped twice", State.of(sieve), State.of(new Sieve()));
    }

    /** "Makes the input empty", also when it is full: there is room for 200 again, not for 201. */
    private static void wipeFull() {
        Sieve sieve = new Sieve();
        Sieves.add(sieve, "x".repeat(MOST));
        sieve.wipe();
        Check.same("nothing is left", Sieves.cleanInput(sieve), " | 1");
        Sieves.add(sieve, "y".repeat(MOST));
        Check.no("201", sieve.put('z'));
        Check.same("200 again", Sieves.cleanInput(sieve), "y".repeat(MOST) + " | 1");
    }

    /** "Makes the input empty", and nothing else. */
    private static void wipeLeavesTheRest() {
        for (Sieve sieve : Samples.all()) {
            String before = State.of(sieve);
            Sieve wiped = sieve.again();
            wiped.wipe();
            String after = State.of(wiped);
            Check.same("what was cleaned", part(after, "latest"), part(before, "latest"));
            Check.same("the policy", after.substring(after.indexOf("\nactions")),
                    before.substring(before.indexOf("\nactions")));
            Check.same("the room", part(after, "room"), "room: 200");
        }
    }

    private static String part(String state, String name) {
        int from = state.indexOf(name + ":");
        return state.substring(from, state.indexOf('\n', from));
    }
}
