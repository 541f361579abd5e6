/**
 * Makes clean text of marked text that is not to be trusted: it is read into a tree the way that
 * forgiving readers do it, the tree is sifted by a list of what is allowed, and written anew; and
 * because what is written may be read as another tree, this is done again until nothing changes
 * any more.
 *
 * <p>All rows are made with the object and used again, so that no call makes anything new.
 */
public final class MarkupSieve {
    public static final int REJECTED = -1, NONE = -1;
    public static final int KEEP = 0, UNWRAP = 1, DROP = 2;
    public static final int TEXT = 1, COMMENT = 2, ELEMENT = 3;
    public static final int EVERY = -1;

    private static final int MOST_CHARACTERS = 200;
    private static final int MOST_OPEN = 8;
    private static final int MOST_SCHEMES = 4;
    private static final int MOST_ROUNDS = 6;
    private static final int BYTES = 8;

    private static final int LETTERS = 26;
    private static final int UNKNOWN = 26;
    private static final int NO_LETTER = -1;
    private static final int A = 0, D = 3, F = 5, H = 7, L = 11, M = 12, N = 13, O = 14, P = 15;
    private static final int R = 17, S = 18, U = 20, V = 21;

    private static final char FIRST_PLAIN = ' ', LAST_PLAIN = '~';
    private static final char NO_CHARACTER = 0;

    private final Line input;
    private final Line source;
    private final Line written;
    private final Policy policy;
    private final Tree firstTree;
    private final Reader firstReader;
    private final Reader laterReader;
    private final Writer writer;
    private int roundsMade;

    public MarkupSieve() {
        input = new Line();
        source = new Line();
        written = new Line();
        policy = new Policy();
        firstTree = new Tree();
        firstReader = new Reader(source, firstTree);
        laterReader = new Reader(source, new Tree());
        writer = new Writer(policy, written);
        roundsMade = 0;
    }

    public boolean put(long characters) {
        int more = 0;
        for (int b = 0; b < BYTES; b++) {
            int c = byteAt(characters, b);
            if (c != 0 && !isPlain(c)) {
                return false;
            }
            more += c == 0 ? 0 : 1;
        }
        if (input.size() + more > MOST_CHARACTERS) {
            return false;
        }
        for (int b = 0; b < BYTES; b++) {
            int c = byteAt(characters, b);
            if (c != 0) {
                input.add((char) c);
            }
        }
        return true;
    }

    public void wipe() {
        input.empty();
    }

    public boolean action(int letter, int what) {
        if (!isLetterNumber(letter) || what < KEEP || what > DROP || letter == S && what == KEEP) {
            return false;
        }
        policy.setAction(letter, what);
        return true;
    }

    public boolean attribute(int letter, int a, boolean may) {
        boolean known = (letter == EVERY || isLetterNumber(letter)) && isLetterNumber(a);
        if (!known || a == O && may) {
            return false;
        }
        policy.setAttribute(letter, a, may);
        return true;
    }

    public boolean scheme(long letters) {
        return isWord(letters) && policy.addScheme(letters);
    }

    public void reset() {
        policy.restore();
    }

    public int clean() {
        boolean fits = true;
        boolean settled = false;
        // Later rounds have a tree of their own, since the first one's is asked about afterwards.
        Reader reader = firstReader;
        source.copy(input);
        roundsMade = 0;
        while (roundsMade < MOST_ROUNDS && fits && !settled) {
            fits = writer.writeAll(reader.readAll());
            settled = fits && written.isSame(source);
            source.copy(written);
            reader = laterReader;
            roundsMade++;
        }
        if (!settled) {
            written.empty();
            return REJECTED;
        }
        return written.size();
    }

    public long output(int k) {
        return written.eight(0, written.size(), k);
    }

    public int rounds() {
        return roundsMade;
    }

    public int nodes() {
        return firstTree.size();
    }

    public int node(int i) {
        return firstTree.codeOf(i);
    }

    public long text(int i, int k) {
        return firstTree.eightOfText(i, k);
    }

    public int length(int i, int a) {
        return firstTree.sizeOfValue(firstTree.findAttribute(i, a));
    }

    public long value(int i, int a, int k) {
        return firstTree.eightOfValue(firstTree.findAttribute(i, a), k);
    }

    private static int byteAt(long bytes, int b) {
        return (int) (bytes >>> (8 * b)) & 255;
    }

    private static boolean isPlain(int c) {
        return c >= FIRST_PLAIN && c <= LAST_PLAIN;
    }

    private static boolean isDigit(char c) {
        return c >= '0' && c <= '9';
    }

    private static boolean isLetterNumber(int number) {
        return number >= 0 && number < LETTERS;
    }

    private static boolean isLetter(char c) {
        return c >= 'a' && c <= 'z' || c >= 'A' && c <= 'Z';
    }

    private static int letterNumber(char c) {
        if (c >= 'a' && c <= 'z') {
            return c - 'a';
        }
        return c >= 'A' && c <= 'Z' ? c - 'A' : NO_LETTER;
    }

    /** Tells whether the bytes are one to eight small letters with nothing but 0 behind them. */
    private static boolean isWord(long bytes) {
        int size = 0;
        for (int b = 0; b < BYTES; b++) {
            int c = byteAt(bytes, b);
            boolean small = c >= 'a' && c <= 'z';
            if (c != 0 && (!small || size < b)) {
                return false;
            }
            size += small ? 1 : 0;
        }
        return size > 0;
    }

    private static boolean isBlock(int name) {
        return name == D || name == P || name == U || name == L;
    }

    private static boolean isEmptyName(int name) {
        return name == N || name == M;
    }

    /** A row of as many characters as an input may have. */
    private static final class Line {
        private final char[] row;
        private int size;
        private boolean overflowed;

        Line() {
            row = new char[MOST_CHARACTERS];
            size = 0;
            overflowed = false;
        }

        int size() {
            return size;
        }

        /** Tells whether more was added, since the line was empty, than it can hold. */
        boolean isOverflowed() {
            return overflowed;
        }

        void empty() {
            size = 0;
            overflowed = false;
        }

        /** Answers no character beyond the ends, so that readers may look ahead freely. */
        char at(int i) {
            return i >= 0 && i < size ? row[i] : NO_CHARACTER;
        }

        void add(char c) {
            if (size >= MOST_CHARACTERS) {
                overflowed = true;
                return;
            }
            row[size] = c;
            size++;
        }

        void addWord(String word) {
            for (int i = 0; i < word.length(); i++) {
                add(word.charAt(i));
            }
        }

        boolean has(int i, String word) {
            for (int j = 0; j < word.length(); j++) {
                if (at(i + j) != word.charAt(j)) {
                    return false;
                }
            }
            return true;
        }

        boolean isSame(Line other) {
            if (size != other.size) {
                return false;
            }
            for (int i = 0; i < size; i++) {
                if (at(i) != other.at(i)) {
                    return false;
                }
            }
            return true;
        }

        void copy(Line other) {
            empty();
            addPiece(other, 0, other.size);
        }

        void addPiece(Line other, int from, int to) {
            for (int i = from; i < to; i++) {
                add(other.at(i));
            }
        }

        /** Adds a piece with the characters that its references stand for. */
        void addResolved(Line other, int from, int to) {
            int i = from;
            while (i < to) {
                int reference = References.find(other, i);
                int taken = References.sizeOf(reference);
                boolean found = taken > 0 && i + taken <= to;
                add(found ? References.characterOf(reference) : other.at(i));
                i += found ? taken : 1;
            }
        }

        /** Packs eight characters of the piece from .. to, from its character 8 * k on. */
        long eight(int from, int to, int k) {
            // A larger k is beyond every piece, and 8 * k might wrap around.
            if (k < 0 || k > MOST_CHARACTERS / BYTES) {
                return 0L;
            }
            long packed = 0L;
            for (int b = 0; b < BYTES; b++) {
                int i = from + BYTES * k + b;
                if (i < to) {
                    packed |= (long) at(i) << (8 * b);
                }
            }
            return packed;
        }
    }

    /**
     * Finds references. What is found is one number, made of the character that a reference stands
     * for and of its size, so that finding makes no object.
     */
    private static final class References {
        private static final int MOST_DIGITS = 3;
        private static final int NOT_FOUND = 0;

        static int find(Line line, int i) {
            if (line.at(i) != '&') {
                return NOT_FOUND;
            }
            if (line.at(i + 1) == '#') {
                return findNumber(line, i);
            }
            if (line.has(i, "&lt;")) {
                return join('<', 4);
            }
            if (line.has(i, "&gt;")) {
                return join('>', 4);
            }
            if (line.has(i, "&amp;")) {
                return join('&', 5);
            }
            return line.has(i, "&quot;") ? join('"', 6) : NOT_FOUND;
        }

        private static int findNumber(Line line, int i) {
            int code = 0;
            int digits = 0;
            while (digits < MOST_DIGITS && isDigit(line.at(i + 2 + digits))) {
                code = 10 * code + line.at(i + 2 + digits) - '0';
                digits++;
            }
            boolean whole = digits > 0 && line.at(i + 2 + digits) == ';';
            return whole && isPlain(code) ? join(code, digits + 3) : NOT_FOUND;
        }

        private static int join(int character, int size) {
            return size << 8 | character;
        }

        static int sizeOf(int reference) {
            return reference >> 8;
        }

        static char characterOf(int reference) {
            return (char) (reference & 255);
        }
    }

    /** What is allowed. */
    private static final class Policy {
        private final int[] actions;
        /** For each letter, and for every element behind them, a bit for each attribute. */
        private final int[] attributes;
        private final long[] schemes;
        private int schemeCount;

        Policy() {
            actions = new int[LETTERS];
            attributes = new int[LETTERS + 1];
            schemes = new long[MOST_SCHEMES];
            restore();
        }

        void restore() {
            for (int letter = 0; letter < LETTERS; letter++) {
                actions[letter] = letter == S ? DROP : UNWRAP;
                attributes[letter] = 0;
            }
            attributes[LETTERS] = 0;
            schemeCount = 0;
        }

        void setAction(int letter, int what) {
            if (isLetterNumber(letter)) {
                actions[letter] = what;
            }
        }

        int actionOf(int name) {
            return isLetterNumber(name) ? actions[name] : UNWRAP;
        }

        void setAttribute(int letter, int a, boolean may) {
            int row = isLetterNumber(letter) ? letter : LETTERS;
            if (may) {
                attributes[row] |= 1 << a;
            } else {
                attributes[row] &= ~(1 << a);
            }
        }

        boolean allowsAttribute(int letter, int a) {
            int row = isLetterNumber(letter) ? letter : LETTERS;
            return ((attributes[row] | attributes[LETTERS]) >> a & 1) != 0;
        }

        boolean addScheme(long letters) {
            if (schemeCount >= MOST_SCHEMES || hasScheme(letters)) {
                return false;
            }
            schemes[schemeCount] = letters;
            schemeCount++;
            return true;
        }

        private boolean hasScheme(long letters) {
            for (int i = 0; i < schemeCount; i++) {
                if (schemes[i] == letters) {
                    return true;
                }
            }
            return false;
        }

        /** Tells whether the address from .. to has an allowed scheme or none. */
        boolean allowsAddress(Line line, int from, int to) {
            int begin = from;
            while (begin < to && line.at(begin) == ' ') {
                begin++;
            }
            int end = begin;
            while (end < to && isSchemeCharacter(line.at(end), end == begin)) {
                end++;
            }
            boolean hasOne = end > begin && end < to && line.at(end) == ':';
            return !hasOne || allowsScheme(line, begin, end);
        }

        private static boolean isSchemeCharacter(char c, boolean first) {
            return isLetter(c) || !first && (isDigit(c) || c == '+' || c == '-' || c == '.');
        }

        private boolean allowsScheme(Line line, int from, int to) {
            if (to - from > BYTES) {
                return false;
            }
            long letters = 0L;
            for (int i = from; i < to; i++) {
                int number = letterNumber(line.at(i));
                if (number == NO_LETTER) {
                    return false;
                }
                letters |= (long) ('a' + number) << (8 * (i - from));
            }
            return hasScheme(letters);
        }
    }

    /**
     * The nodes in the order in which they begin. Their depths tell which lie in which: all that
     * follow a node and are deeper, up to the first that is not, lie in it.
     */
    private static final class Tree {
        // Each node takes a character of the input at least.
        private static final int MOST_NODES = MOST_CHARACTERS;
        // Each attribute takes a letter and the character behind it at least.
        private static final int MOST_ATTRIBUTES = MOST_CHARACTERS / 2;

        private static final int NAME_SHIFT = 2, DEPTH_SHIFT = 7, FOREIGN = 4096;
        private static final int KIND_MASK = 3, NAME_MASK = 31, DEPTH_MASK = 31;

        /** What node() answers for each node. */
        private final int[] codes;
        /** Where the attributes of an element, or else the characters of a node, begin and end. */
        private final int[] begins;
        private final int[] ends;
        private int count;
        private final Line characters;

        private final int[] attributeLetters;
        private final int[] valueBegins;
        private final int[] valueEnds;
        private int attributeCount;
        private final Line values;

        Tree() {
            codes = new int[MOST_NODES];
            begins = new int[MOST_NODES];
            ends = new int[MOST_NODES];
            count = 0;
            characters = new Line();
            attributeLetters = new int[MOST_ATTRIBUTES];
            valueBegins = new int[MOST_ATTRIBUTES];
            valueEnds = new int[MOST_ATTRIBUTES];
            attributeCount = 0;
            values = new Line();
        }

        void empty() {
            count = 0;
            characters.empty();
            attributeCount = 0;
            values.empty();
        }

        int size() {
            return count;
        }

        boolean hasNode(int i) {
            return i >= 0 && i < count;
        }

        int codeOf(int i) {
            return hasNode(i) ? codes[i] : NONE;
        }

        int kindOf(int i) {
            return hasNode(i) ? codes[i] & KIND_MASK : 0;
        }

        int nameOf(int i) {
            return hasNode(i) ? codes[i] >> NAME_SHIFT & NAME_MASK : 0;
        }

        int depthOf(int i) {
            return hasNode(i) ? codes[i] >> DEPTH_SHIFT & DEPTH_MASK : 0;
        }

        boolean isForeign(int i) {
            return hasNode(i) && (codes[i] & FOREIGN) != 0;
        }

        Line textLine() {
            return characters;
        }

        Line valueLine() {
            return values;
        }

        int beginOf(int i) {
            return hasNode(i) ? begins[i] : 0;
        }

        int endOf(int i) {
            return hasNode(i) ? ends[i] : 0;
        }

        long eightOfText(int i, int k) {
            if (!hasNode(i) || kindOf(i) == ELEMENT) {
                return 0L;
            }
            return characters.eight(begins[i], ends[i], k);
        }

        /** Answers a place among the attributes of all elements. */
        int findAttribute(int i, int letter) {
            if (kindOf(i) != ELEMENT) {
                return NONE;
            }
            for (int place = beginOf(i); place < endOf(i); place++) {
                if (hasAttribute(place) && attributeLetters[place] == letter) {
                    return place;
                }
            }
            return NONE;
        }

        boolean hasAttribute(int place) {
            return place >= 0 && place < attributeCount;
        }

        int letterOf(int place) {
            return hasAttribute(place) ? attributeLetters[place] : NO_LETTER;
        }

        int valueBeginOf(int place) {
            return hasAttribute(place) ? valueBegins[place] : 0;
        }

        int valueEndOf(int place) {
            return hasAttribute(place) ? valueEnds[place] : 0;
        }

        int sizeOfValue(int place) {
            return hasAttribute(place) ? valueEnds[place] - valueBegins[place] : NONE;
        }

        long eightOfValue(int place, int k) {
            return values.eight(valueBeginOf(place), valueEndOf(place), k);
        }

        /** Answers the new node. */
        int addElement(int name, int depth, boolean foreign) {
            int code = ELEMENT | name << NAME_SHIFT | depth << DEPTH_SHIFT;
            return addNode(code | (foreign ? FOREIGN : 0), attributeCount);
        }

        void addComment(int depth, Line source, int from, int to) {
            int comment = addNode(COMMENT | depth << DEPTH_SHIFT, characters.size());
            characters.addPiece(source, from, to);
            endCharacters(comment);
        }

        void addRaw(int depth, Line source, int from, int to) {
            int text = openText(depth);
            characters.addPiece(source, from, to);
            endCharacters(text);
        }

        void addText(int depth, Line source, int from, int to) {
            int text = openText(depth);
            characters.addResolved(source, from, to);
            endCharacters(text);
        }

        /**
         * Answers the text that goes on, or a new one. The latest node is the one directly before
         * what is put now if it is as deep: had its parent been closed, less would be open.
         */
        private int openText(int depth) {
            int latest = count - 1;
            boolean goesOn = kindOf(latest) == TEXT && depthOf(latest) == depth;
            return goesOn ? latest : addNode(TEXT | depth << DEPTH_SHIFT, characters.size());
        }

        private void endCharacters(int i) {
            if (hasNode(i)) {
                ends[i] = characters.size();
            }
        }

        private int addNode(int code, int begin) {
            if (count >= MOST_NODES) {
                return NONE;
            }
            codes[count] = code;
            begins[count] = begin;
            ends[count] = begin;
            count++;
            return count - 1;
        }

        /** Gives the latest node the tag's attributes, in the order in which they are written. */
        void addAttributes(Tag tag, Line source) {
            for (int letter = 0; letter < LETTERS; letter++) {
                if (tag.hasAttribute(letter) && attributeCount < MOST_ATTRIBUTES) {
                    attributeLetters[attributeCount] = letter;
                    valueBegins[attributeCount] = values.size();
                    values.addResolved(source, tag.beginOf(letter), tag.endOf(letter));
                    valueEnds[attributeCount] = values.size();
                    attributeCount++;
                }
            }
            if (hasNode(count - 1)) {
                ends[count - 1] = attributeCount;
            }
        }
    }

    /** The elements that are open, each inside of the one before it. */
    private static final class OpenList {
        private final int[] names;
        private final boolean[] foreigns;
        private int count;

        OpenList() {
            names = new int[MOST_OPEN];
            foreigns = new boolean[MOST_OPEN];
            count = 0;
        }

        int size() {
            return count;
        }

        void empty() {
            count = 0;
        }

        boolean isFull() {
            return count >= MOST_OPEN;
        }

        void add(int name, boolean foreign) {
            if (count < MOST_OPEN) {
                names[count] = name;
                foreigns[count] = foreign;
                count++;
            }
        }

        boolean isAlien() {
            return isForeign(count - 1) && !isNamed(count - 1, F);
        }

        private boolean isForeign(int place) {
            return place >= 0 && place < count && foreigns[place];
        }

        private boolean isNamed(int place, int name) {
            return place >= 0 && place < count && names[place] == name;
        }

        int lastInTail(int name) {
            boolean foreign = isForeign(count - 1);
            for (int place = count - 1; place >= 0 && isForeign(place) == foreign; place--) {
                if (isNamed(place, name)) {
                    return place;
                }
            }
            return NONE;
        }

        /** The scope is the tail, unless that is foreign: then the scope has none. */
        int lastInScope(int name) {
            return isForeign(count - 1) ? NONE : lastInTail(name);
        }

        /** Closes the element at a place, and nothing if the place is none. */
        void close(int place) {
            if (place >= 0 && place < count) {
                count = place;
            }
        }
    }

    /** A START or END as it is read: its name, and where in the source its values stand. */
    private static final class Tag {
        private final int[] begins;
        private final int[] ends;
        private int had;
        private int name;
        private boolean ending;

        Tag() {
            begins = new int[LETTERS];
            ends = new int[LETTERS];
            had = 0;
            name = UNKNOWN;
            ending = false;
        }

        void begin(int itsName, boolean isEnding) {
            name = itsName;
            ending = isEnding;
            had = 0;
        }

        int name() {
            return name;
        }

        boolean isEnding() {
            return ending;
        }

        /** Passes over those that are of no use. */
        void addAttribute(int letter, int from, int to) {
            if (!ending && isLetterNumber(letter) && !hasAttribute(letter)) {
                had |= 1 << letter;
                begins[letter] = from;
                ends[letter] = to;
            }
        }

        boolean hasAttribute(int letter) {
            return isLetterNumber(letter) && (had >> letter & 1) != 0;
        }

        int beginOf(int letter) {
            return hasAttribute(letter) ? begins[letter] : 0;
        }

        int endOf(int letter) {
            return hasAttribute(letter) ? ends[letter] : 0;
        }
    }

    /** Does what STARTs and ENDs ask for in a tree. */
    private static final class Builder {
        private final Line source;
        private final Tree tree;
        private final OpenList open;

        Builder(Line source, Tree tree) {
            this.source = source;
            this.tree = tree;
            open = new OpenList();
        }

        void begin() {
            tree.empty();
            open.empty();
        }

        /** How deep is what is put now. */
        int depth() {
            return open.size();
        }

        /** Tells whether a raw text is due behind the START. */
        boolean start(Tag tag) {
            int element = putElement(tag.name());
            if (element == NONE) {
                return false;
            }
            tree.addAttributes(tag, source);
            // An s is foreign only if the list was alien when it was put.
            return tag.name() == S && !tree.isForeign(element);
        }

        void end(int name) {
            int place = open.lastInTail(name);
            if (place != NONE) {
                open.close(place);
            } else if (name == P && !open.isAlien() && putElement(P) != NONE) {
                open.close(open.size() - 1);
            }
        }

        /** Does a START without its attributes; answers the element, NONE if it was not put. */
        private int putElement(int name) {
            if (isBlock(name)) {
                leaveAliens();
            }
            boolean alien = open.isAlien();
            if (!alien) {
                closeBefore(name);
            }
            boolean staysOpen = alien || !isEmptyName(name);
            if (staysOpen && open.isFull()) {
                return NONE;
            }
            boolean foreign = alien || name == V;
            int element = tree.addElement(name, depth(), foreign);
            if (staysOpen) {
                open.add(name, foreign);
            }
            return element;
        }

        private void leaveAliens() {
            for (int turn = 0; turn < MOST_OPEN && open.isAlien(); turn++) {
                open.close(open.size() - 1);
            }
        }

        private void closeBefore(int name) {
            if (isBlock(name)) {
                open.close(open.lastInScope(P));
            }
            if (name == A) {
                open.close(open.lastInScope(A));
            }
            if (name == L) {
                int item = open.lastInScope(L);
                // An l of an outer u goes on around the inner u.
                if (item > open.lastInScope(U)) {
                    open.close(item);
                }
            }
        }
    }

    /** Reads tokens from left to right and hands them to a builder. */
    private static final class Reader {
        private static final String LONG_COMMENT = "<!--", LONG_COMMENT_END = "-->";
        private static final String COMMENT_END = ">";

        private final Line source;
        private final Tree tree;
        private final Builder builder;
        private final Tag tag;
        private int at;
        private boolean rawDue;

        Reader(Line source, Tree tree) {
            this.source = source;
            this.tree = tree;
            builder = new Builder(source, tree);
            tag = new Tag();
            at = 0;
            rawDue = false;
        }

        /** Answers the tree, which is the same object each time. */
        Tree readAll() {
            builder.begin();
            at = 0;
            rawDue = false;
            // Only the turn of an empty raw text takes no character, and a START was before it.
            for (int turn = 0; turn < MOST_CHARACTERS && at < source.size(); turn++) {
                if (rawDue) {
                    readRaw();
                } else if (!isMarkup(at)) {
                    readText();
                } else if (!isTag(at)) {
                    readComment();
                } else if (readTag()) {
                    if (tag.isEnding()) {
                        builder.end(tag.name());
                    } else {
                        rawDue = builder.start(tag);
                    }
                }
            }
            return tree;
        }

        private boolean isMarkup(int i) {
            char next = source.at(i + 1);
            return source.at(i) == '<' && (next == '!' || next == '?' || next == '/' || isLetter(next));
        }

        /** Tells whether markup is a START or an END, not a comment. */
        private boolean isTag(int i) {
            char next = source.at(i + 1);
            return isLetter(next) || next == '/' && isLetter(source.at(i + 2));
        }

        private void readRaw() {
            int from = at;
            while (at < source.size() && !isRawEnd(at)) {
                at++;
            }
            if (at > from) {
                tree.addRaw(builder.depth(), source, from, at);
            }
            rawDue = false;
        }

        private boolean isRawEnd(int i) {
            if (!source.has(i, "</s") && !source.has(i, "</S")) {
                return false;
            }
            char next = source.at(i + 3);
            return next == ' ' || next == '/' || next == '>' || next == NO_CHARACTER;
        }

        private void readText() {
            int from = at;
            at++;
            while (at < source.size() && !isMarkup(at)) {
                at++;
            }
            tree.addText(builder.depth(), source, from, at);
        }

        private void readComment() {
            boolean isLong = source.has(at, LONG_COMMENT);
            String end = isLong ? LONG_COMMENT_END : COMMENT_END;
            int from = at + (isLong ? LONG_COMMENT.length() : 2);
            int to = from;
            while (to < source.size() && !source.has(to, end)) {
                to++;
            }
            tree.addComment(builder.depth(), source, from, to);
            at = to + end.length();
        }

        /** Tells whether the tag has its end; if not, all characters are taken. */
        private boolean readTag() {
            boolean ending = source.at(at + 1) == '/';
            at += ending ? 2 : 1;
            tag.begin(readName(), ending);
            for (int turn = 0; turn < MOST_CHARACTERS && at < source.size(); turn++) {
                char c = source.at(at);
                if (c == '>') {
                    at++;
                    return true;
                }
                if (c == ' ' || c == '/') {
                    at++;
                } else {
                    readAttribute();
                }
            }
            return false;
        }

        private int readName() {
            int from = at;
            while (at < source.size() && isLetter(source.at(at))) {
                at++;
            }
            return at - from == 1 ? letterNumber(source.at(from)) : UNKNOWN;
        }

        private void readAttribute() {
            int from = at;
            at++;
            while (at < source.size() && !isAttributeNameEnd(source.at(at))) {
                at++;
            }
            int letter = at - from == 1 ? letterNumber(source.at(from)) : NO_LETTER;
            passBlanks();
            if (source.at(at) == '=') {
                at++;
                passBlanks();
                readValue(letter);
            } else {
                tag.addAttribute(letter, at, at);
            }
        }

        private static boolean isAttributeNameEnd(char c) {
            return c == ' ' || c == '/' || c == '>' || c == '=';
        }

        private void passBlanks() {
            while (at < source.size() && source.at(at) == ' ') {
                at++;
            }
        }

        private void readValue(int letter) {
            char quote = source.at(at);
            boolean quoted = quote == '"' || quote == '\'';
            at += quoted ? 1 : 0;
            int from = at;
            while (at < source.size() && !isValueEnd(source.at(at), quoted, quote)) {
                at++;
            }
            tag.addAttribute(letter, from, at);
            at += quoted ? 1 : 0;
        }

        private static boolean isValueEnd(char c, boolean quoted, char quote) {
            return quoted ? c == quote : c == ' ' || c == '>';
        }
    }

    /** Sifts a tree by the policy and writes what is left. */
    private static final class Writer {
        private static final int NO_DEPTH = MOST_OPEN + 1;

        private final Policy policy;
        private final Line target;
        /** The written elements whose ends are not written yet. */
        private final int[] unended;
        private int unendedCount;

        Writer(Policy policy, Line target) {
            this.policy = policy;
            this.target = target;
            unended = new int[MOST_OPEN];
            unendedCount = 0;
        }

        /** Tells whether all that is to be written fits. */
        boolean writeAll(Tree tree) {
            target.empty();
            unendedCount = 0;
            int droppedDepth = NO_DEPTH;
            for (int i = 0; i < tree.size(); i++) {
                int depth = tree.depthOf(i);
                if (depth <= droppedDepth) {
                    writeEnds(tree, depth);
                    droppedDepth = writeNode(tree, i) ? NO_DEPTH : depth;
                }
            }
            writeEnds(tree, 0);
            return !target.isOverflowed();
        }

        private void writeEnds(Tree tree, int depth) {
            while (unendedCount > 0 && tree.depthOf(unended[unendedCount - 1]) >= depth) {
                unendedCount--;
                target.addWord("</");
                writeLetter(tree.nameOf(unended[unendedCount]));
                target.addWord(">");
            }
        }

        /** Tells whether the nodes in this one are to be written too. */
        private boolean writeNode(Tree tree, int i) {
            if (tree.kindOf(i) == TEXT) {
                writeText(tree.textLine(), tree.beginOf(i), tree.endOf(i));
            }
            if (tree.kindOf(i) != ELEMENT) {
                return true;
            }
            int what = policy.actionOf(tree.nameOf(i));
            if (what == KEEP) {
                writeStart(tree, i);
            }
            return what != DROP;
        }

        private void writeStart(Tree tree, int i) {
            int name = tree.nameOf(i);
            target.addWord("<");
            writeLetter(name);
            for (int place = tree.beginOf(i); place < tree.endOf(i); place++) {
                if (allows(tree, name, place)) {
                    writeAttribute(tree, place);
                }
            }
            target.addWord(">");
            boolean hasEnd = tree.isForeign(i) || !isEmptyName(name);
            if (hasEnd && unendedCount < MOST_OPEN) {
                unended[unendedCount] = i;
                unendedCount++;
            }
        }

        private boolean allows(Tree tree, int name, int place) {
            int letter = tree.letterOf(place);
            if (!policy.allowsAttribute(name, letter)) {
                return false;
            }
            return letter != H && letter != R
                    || policy.allowsAddress(
                            tree.valueLine(), tree.valueBeginOf(place), tree.valueEndOf(place));
        }

        private void writeAttribute(Tree tree, int place) {
            target.addWord(" ");
            writeLetter(tree.letterOf(place));
            target.addWord("=\"");
            writeValue(tree.valueLine(), tree.valueBeginOf(place), tree.valueEndOf(place));
            target.addWord("\"");
        }

        private void writeText(Line line, int from, int to) {
            for (int i = from; i < to; i++) {
                char c = line.at(i);
                if (c == '&') {
                    target.addWord("&amp;");
                } else if (c == '<') {
                    target.addWord("&lt;");
                } else if (c == '>') {
                    target.addWord("&gt;");
                } else {
                    target.add(c);
                }
            }
        }

        private void writeValue(Line line, int from, int to) {
            for (int i = from; i < to; i++) {
                char c = line.at(i);
                if (c == '&') {
                    target.addWord("&amp;");
                } else if (c == '"') {
                    target.addWord("&quot;");
                } else {
                    target.add(c);
                }
            }
        }

        private void writeLetter(int letter) {
            target.add((char) ('a' + letter));
        }
    }
}
