/** Promises 1 to 3: a new object, put and wipe. */
public final class InputTest {
    private InputTest() {}

    public static void main(String[] args) {
        newObject();
        newPolicy();
        putOrder();
        putLimits();
        putChangesNothingWhenFalse();
        wipe();
        Check.finish();
    }

    private static void newObject() {
        Sieve sieve = new Sieve();
        Check.same("new rounds", sieve.rounds(), 0);
        Check.same("new nodes", sieve.nodes(), 0);
        Check.same("new node", sieve.node(0), MarkupSieve.NONE);
        Check.same("new output", sieve.output(0), 0L);
        Check.same("new text", sieve.text(0, 0), 0L);
        Check.same("new length", sieve.length(0, 0), MarkupSieve.NONE);
        Check.same("new value", sieve.value(0, 0, 0), 0L);
        Check.same("new clean", sieve.clean(), 0);
        Check.same("rounds of nothing", sieve.rounds(), 1);
    }

    private static void newPolicy() {
        for (char c = 'a'; c <= 'z'; c++) {
            Sieve sieve = new Sieve();
            String due = c == 's' ? "13 | 2" : "123 | 2";
            Check.same("new policy", Sieves.clean(sieve, "1<" + c + " c=d>2</" + c + ">3"), due);
        }
        Sieve sieve = Sieves.keeping("b");
        String due = "<b></b> | 2";
        Check.same("no attributes", Sieves.clean(sieve, "<b a b c d e f g h i j k l m>"), due);
        Check.same("no attributes", Sieves.clean(sieve, "<b n o p q r s t u v w x y z>"), due);
        sieve.attribute(1, Sieves.number('h'), true);
        Check.same("no schemes", Sieves.clean(sieve, "<b h=http:x>"), due);
    }

    private static void putOrder() {
        Sieve sieve = new Sieve();
        Check.yes("put eight", sieve.put(Sieves.pack("abcdefgh")));
        Check.yes("put with bytes 0", sieve.put(0x6B00006A00690000L));
        Check.yes("put nothing", sieve.put(0L));
        Check.yes("put the highest byte", sieve.put((long) 'l' << 56));
        Check.same("clean", sieve.clean(), 12);
        Check.same("the order of what was put", Sieves.output(sieve), "abcdefghijkl");
    }

    private static void putLimits() {
        for (int c = 1; c < 256; c++) {
            for (int b = 0; b < 8; b++) {
                Sieve sieve = new Sieve();
                boolean due = c >= 32 && c <= 126;
                Check.same("put " + c + " at " + b, sieve.put((long) c << (8 * b)), due);
            }
        }
        Sieve sieve = new Sieve();
        Sieves.feed(sieve, "x".repeat(195));
        Check.no("put 201 in all", sieve.put(Sieves.pack("yyyyyy")));
        Check.yes("put 200 in all", sieve.put(Sieves.pack("zzzzz")));
        Check.no("put one more", sieve.put(Sieves.pack("y")));
        Check.yes("put nothing more", sieve.put(0L));
        Check.same("clean", sieve.clean(), 200);
        Check.same("200 characters", Sieves.output(sieve), "x".repeat(195) + "zzzzz");
    }

    private static void putChangesNothingWhenFalse() {
        Sieve sieve = new Sieve();
        sieve.put(Sieves.pack("ab"));
        Check.no("a wrong byte last", sieve.put(Sieves.pack("cdefghi\n")));
        Check.no("a wrong byte first", sieve.put(Sieves.pack("\u007fcd")));
        Check.no("all bytes wrong", sieve.put(-1L));
        Check.no("the least long", sieve.put(Long.MIN_VALUE));
        sieve.put(Sieves.pack("z"));
        sieve.clean();
        Check.same("what was refused is not there", Sieves.output(sieve), "abz");
    }

    private static void wipe() {
        Sieve sieve = Sieves.keeping("b");
        Sieves.feed(sieve, "<b>x");
        sieve.clean();
        sieve.wipe();
        Check.same("output after wipe", Sieves.output(sieve), "<b>x</b>");
        Check.same("rounds after wipe", sieve.rounds(), 2);
        Check.same("nodes after wipe", sieve.nodes(), 2);
        Check.same("text after wipe", Sieves.text(sieve, 1), "x");
        sieve.put(Sieves.pack("<b>y"));
        Check.same("output after put", Sieves.output(sieve), "<b>x</b>");
        sieve.clean();
        Check.same("wipe keeps the policy", Sieves.output(sieve), "<b>y</b>");
        sieve.wipe();
        Check.same("clean after wipe", sieve.clean(), 0);
        Check.same("nodes of nothing", sieve.nodes(), 0);
        sieve.put(Sieves.pack("<b>z"));
        sieve.wipe();
        sieve.wipe();
        Sieves.feed(sieve, "x".repeat(200));
        Check.same("room after wipe", sieve.clean(), 200);
    }
}
