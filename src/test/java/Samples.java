import java.util.List;

/** Objects in the states in which a refused call must change nothing. */
final class Samples {
    private Samples() {}

    static List<Sieve> all() {
        return List.of(new Sieve(), used(), full(), rejected());
    }

    /** Has a policy of its own, an output, and another input since. */
    static Sieve used() {
        Sieve sieve = Sieves.keeping("abp");
        Sieves.act(sieve, MarkupSieve.DROP, "i");
        Sieves.act(sieve, MarkupSieve.UNWRAP, "s");
        Sieves.allow(sieve, 'a', "h");
        Sieves.allow(sieve, '*', "c");
        Sieves.allowSchemes(sieve, "http", "a");
        Sieves.feed(sieve, "<a h=http:x c='&lt;'>1<v><a>2<!3>");
        sieve.clean();
        Sieves.feed(sieve, "<b>4<i>5</i>&amp;");
        return sieve;
    }

    /** Has no more room for characters and schemes, and all is kept that may be. */
    static Sieve full() {
        Sieve sieve = Sieves.keeping("abcdefghijklmnopqrtuvwxyz");
        Sieves.allow(sieve, '*', "abcdefghijklmnpqrstuvwxyz");
        Sieves.allowSchemes(sieve, "http", "abcdefgh", "a", "zzzzzzzz");
        Sieves.feed(sieve, "x".repeat(200));
        sieve.clean();
        return sieve;
    }

    /** Has a tree and a round, but no output. */
    static Sieve rejected() {
        Sieve sieve = Sieves.keeping("b");
        Sieves.allowSchemes(sieve, "ftp", "b", "c");
        Sieves.feed(sieve, "<b>" + "&".repeat(40));
        sieve.clean();
        return sieve;
    }
}
