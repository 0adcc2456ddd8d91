import java.util.Arrays;

/**
 * EQUATIONS between TERMS whose letters U .. Z stand for ways to build terms of their parts:
 * read from a text, taken apart into PAIRS, solved by small CHOICES of BODIES.
 */
public final class FlexTerms {
    public static final int NONE = -1, BAD = -2, NO = -3, FULL = -4;

    private static final int NOT_SO_MANY = -5;
    private static final int LAST_BYTE = 127;
    private static final int FACTS = 8;
    private static final int SIDE_FACTS = 4;
    private static final int PAIR_FACTS = 6;
    private static final int PAIR_KINDS = 4;

    private final Text text = new Text();
    private final Equations now = new Equations();
    private final Equations read = new Equations();
    private final History history = new History();
    private final Pairs taken = new Pairs(now);
    private final Bodies table = new Bodies();
    private final Growth growth = new Growth(now);
    private final Search search = new Search(now, taken, table, growth);
    private final Writing writing = new Writing();
    private int bads;
    private int noes;
    private int fulls;

    public FlexTerms() {
    }

    // ---- equations

    public int type(int c) {
        if (c < 0 || c > LAST_BYTE) {
            return refuse(BAD);
        }
        return text.append(c) ? text.length() : refuse(FULL);
    }

    public int clear() {
        int had = text.length();
        text.erase();
        return had;
    }

    public int reads() {
        int fault = text.readInto(read);
        if (fault != NONE) {
            return -10 - fault;
        }
        history.push(now);
        now.copyFrom(read);
        arrange();
        search.forget();
        return now.count();
    }

    public int drops(int e) {
        if (!now.has(e)) {
            return refuse(BAD);
        }
        history.push(now);
        now.remove(e);
        arrange();
        search.forget();
        return now.count();
    }

    public int turns(int e) {
        if (!now.has(e)) {
            return refuse(BAD);
        }
        history.push(now);
        now.turn(e);
        // The SOLUTIONS are kept: the same CHOICES solve whichever side is LEFT.
        arrange();
        return now.nodesAt(now.start(e, 0));
    }

    public int of(int e, int side, int what) {
        if (!now.has(e) || !isSide(side) || what < 0 || what >= SIDE_FACTS) {
            return refuse(BAD);
        }
        return sideFact(e, side, what);
    }

    public int shown(int e, int k) {
        if (!now.has(e) || k < NONE) {
            return refuse(BAD);
        }
        writing.begin();
        writing.putTerm(now, now.start(e, 0));
        writing.put('=');
        writing.putTerm(now, now.start(e, 1));
        return k == NONE ? writing.length() : writing.byteAt(k);
    }

    // ---- pairs

    public int pairs(int what) {
        if (what < 0 || what >= PAIR_KINDS) {
            return refuse(BAD);
        }
        return taken.howMany(what);
    }

    public int pair(int i, int what) {
        if (i < 0 || what < 0 || what >= PAIR_FACTS) {
            return refuse(BAD);
        }
        if (i >= taken.count()) {
            return NOT_SO_MANY;
        }
        switch (what) {
            case 0:
                return now.letterAt(taken.left(i));
            case 1:
                return now.letterAt(taken.right(i));
            case 2:
                return now.nodesAt(taken.left(i));
            case 3:
                return now.nodesAt(taken.right(i));
            case 4:
                return taken.kind(i);
            default:
                return taken.ways(i);
        }
    }

    // ---- solutions

    public int solutions() {
        return search.found();
    }

    public int size(int i) {
        if (i < 0) {
            return refuse(BAD);
        }
        if (i >= search.found()) {
            return refuse(NO);
        }
        return search.sizeOf(i);
    }

    public int body(int i, int x, int k) {
        if (i < 0 || x < 0 || x >= Letters.FLEX || k < NONE) {
            return refuse(BAD);
        }
        if (i >= search.found()) {
            return refuse(NO);
        }
        int word = search.wordOf(i, x);
        if (word == 0) {
            return NOT_SO_MANY;
        }
        if (k == NONE) {
            return Bodies.lettersIn(word);
        }
        writing.begin();
        writing.putBody(word);
        return writing.byteAt(k);
    }

    public int becomes(int i, int e, int side, int k) {
        if (i < 0 || !now.has(e) || !isSide(side) || k < NONE) {
            return refuse(BAD);
        }
        if (i >= search.found()) {
            return refuse(NO);
        }
        search.take(i);
        int root = now.start(e, side);
        growth.grow(root);
        if (k == NONE) {
            return growth.sizeAt(root);
        }
        return k < growth.sizeAt(root) ? growth.letterOf(root, k) : NOT_SO_MANY;
    }

    public int bodies(int x, int n) {
        if (x < 0 || x >= Letters.FLEX || n < 1 || n > Bodies.LARGEST) {
            return refuse(BAD);
        }
        int parts = Letters.parts('U' + x);
        return table.end(parts, n) - table.first(parts, n);
    }

    // ---- what there is

    public int back() {
        if (!history.popInto(now)) {
            return refuse(NO);
        }
        arrange();
        search.forget();
        return history.count();
    }

    public int told(int what) {
        if (what < 0 || what >= FACTS) {
            return refuse(BAD);
        }
        return fact(what);
    }

    public long digest() {
        long h = 2473;
        for (int what = 0; what < FACTS; what++) {
            h = 31 * h + fact(what);
        }
        for (int e = 0; e < now.count(); e++) {
            for (int n = 0; n < 2 * SIDE_FACTS; n++) {
                h = 31 * h + sideFact(e, n / SIDE_FACTS, n % SIDE_FACTS);
            }
        }
        for (int what = 0; what < PAIR_KINDS; what++) {
            h = 31 * h + taken.howMany(what);
        }
        h = 31 * h + search.found();
        for (int i = 0; i < search.found(); i++) {
            h = 31 * h + search.sizeOf(i);
            h = digestBodies(h, i);
        }
        return h;
    }

    private long digestBodies(long before, int i) {
        long h = before;
        for (int x = 0; x < Letters.FLEX; x++) {
            // A letter that does not stand in the EQUATIONS has the word 0, which writes nothing.
            writing.begin();
            writing.putBody(search.wordOf(i, x));
            for (int k = 0; k < writing.length(); k++) {
                h = 31 * h + writing.byteAt(k);
            }
        }
        return h;
    }

    private int fact(int what) {
        switch (what) {
            case 0:
                return bads;
            case 1:
                return noes;
            case 2:
                return fulls;
            case 3:
                return text.length();
            case 4:
                return now.count();
            case 5:
                return now.total();
            case 6:
                return now.flexIn(0, now.total());
            default:
                return history.count();
        }
    }

    private int sideFact(int e, int side, int what) {
        int root = now.start(e, side);
        switch (what) {
            case 0:
                return now.nodesAt(root);
            case 1:
                return now.flexIn(root, now.nodesAt(root));
            case 2:
                return now.depthAt(root);
            default:
                return now.letterAt(root);
        }
    }

    private void arrange() {
        taken.takeApart();
        growth.prepare();
    }

    private int refuse(int why) {
        if (why == BAD) {
            bads++;
        } else if (why == NO) {
            noes++;
        } else {
            fulls++;
        }
        return why;
    }

    private static boolean isSide(int side) {
        return side == 0 || side == 1;
    }

    /**
     * The letters of TERMS. Their kinds: 0 .. 5 are U .. Z, the FLEX ones, 6 .. 9 are a, b, f, g.
     */
    private static final class Letters {
        static final int FLEX = 6;
        static final int KINDS = 10;

        static int kind(int letter) {
            switch (letter) {
                case 'a':
                    return 6;
                case 'b':
                    return 7;
                case 'f':
                    return 8;
                case 'g':
                    return 9;
                default:
                    return isFlex(letter) ? letter - 'U' : NONE;
            }
        }

        static boolean isFlex(int letter) {
            return letter >= 'U' && letter <= 'Z';
        }

        /** Figures of a BODY have none, as they stand in place of whole TERMS. */
        static int parts(int letter) {
            switch (letter) {
                case 'f':
                case 'V':
                case 'Y':
                    return 1;
                case 'g':
                case 'W':
                case 'Z':
                    return 2;
                default:
                    return 0;
            }
        }
    }

    /**
     * EQUATIONS as one row of letters, side behind side as they are written from the left. A letter's
     * first part begins at the next place, so a place in the row tells a whole TERM.
     */
    private static final class Equations {
        static final int MOST_SIDES = 8;
        static final int MOST_NODES = 40;

        private final int[] letters = new int[MOST_NODES];
        private final int[] starts = new int[MOST_SIDES + 1];
        private final int[] nodes = new int[MOST_NODES];
        private final int[] depths = new int[MOST_NODES];
        private final int[] seconds = new int[MOST_NODES];
        private int sides;
        private int total;

        void erase() {
            sides = 0;
            total = 0;
        }

        boolean append(int letter) {
            if (sides >= MOST_SIDES || total >= MOST_NODES) {
                return false;
            }
            letters[total] = letter;
            total++;
            return true;
        }

        void endSide() {
            if (sides < MOST_SIDES) {
                sides++;
                starts[sides] = total;
            }
        }

        boolean awaitsLeft() {
            return sides % 2 == 0;
        }

        int count() {
            return sides / 2;
        }

        int total() {
            return total;
        }

        boolean has(int e) {
            return e >= 0 && e < count();
        }

        int start(int e, int side) {
            return has(e) && isSide(side) ? starts[2 * e + side] : 0;
        }

        int letterAt(int p) {
            return p >= 0 && p < MOST_NODES ? letters[p] : 0;
        }

        int nodesAt(int p) {
            return p >= 0 && p < MOST_NODES ? nodes[p] : 0;
        }

        int depthAt(int p) {
            return p >= 0 && p < MOST_NODES ? depths[p] : 0;
        }

        /** Where the second part of the letter at p begins; p itself, if it has none. */
        int secondOf(int p) {
            return p >= 0 && p < MOST_NODES ? seconds[p] : 0;
        }

        int flexIn(int from, int many) {
            int bits = 0;
            for (int p = from; p < from + many; p++) {
                if (Letters.isFlex(letterAt(p))) {
                    bits |= 1 << Letters.kind(letterAt(p));
                }
            }
            return bits;
        }

        void copyFrom(Equations other) {
            if (other == null) {
                return;
            }
            System.arraycopy(other.letters, 0, letters, 0, MOST_NODES);
            System.arraycopy(other.starts, 0, starts, 0, MOST_SIDES + 1);
            sides = other.sides;
            total = other.total;
            measure();
        }

        void remove(int e) {
            if (!has(e)) {
                return;
            }
            int from = starts[2 * e];
            int behind = starts[2 * e + 2];
            System.arraycopy(letters, behind, letters, from, total - behind);
            for (int s = 2 * e; s + 2 <= sides; s++) {
                starts[s] = starts[s + 2] - (behind - from);
            }
            sides -= 2;
            total -= behind - from;
            measure();
        }

        void turn(int e) {
            if (!has(e)) {
                return;
            }
            int left = starts[2 * e];
            int right = starts[2 * e + 1];
            int behind = starts[2 * e + 2];
            int[] moved = Arrays.copyOfRange(letters, left, right);
            System.arraycopy(letters, right, letters, left, behind - right);
            System.arraycopy(moved, 0, letters, left + behind - right, moved.length);
            starts[2 * e + 1] = left + behind - right;
            measure();
        }

        /** From the last letter to the first, as a letter's parts stand behind it. */
        private void measure() {
            for (int p = Math.min(total, MOST_NODES) - 1; p >= 0; p--) {
                int parts = Letters.parts(letters[p]);
                int many = 1;
                int deepest = 0;
                seconds[p] = p;
                if (parts > 0) {
                    many += nodesAt(p + 1);
                    deepest = depthAt(p + 1);
                }
                if (parts > 1) {
                    seconds[p] = p + many;
                    deepest = Math.max(deepest, depthAt(p + many));
                    many += nodesAt(p + many);
                }
                nodes[p] = many;
                depths[p] = deepest + 1;
            }
        }
    }

    /** THE TEXT, and what may come next in it while it is read. */
    private static final class Text {
        private static final int ROOM = 120;
        private static final int EQUATION = 0, LETTER = 1, BRACKET = 2, BEHIND = 3;

        private final int[] bytes = new int[ROOM];
        private final int[] partsLeft = new int[Equations.MOST_NODES];
        private int length;
        private int depth;
        private int awaited;

        int length() {
            return length;
        }

        void erase() {
            length = 0;
        }

        boolean append(int c) {
            if (length >= ROOM) {
                return false;
            }
            bytes[length] = c;
            length++;
            return true;
        }

        /** NONE, or the FAULT. */
        int readInto(Equations target) {
            target.erase();
            depth = 0;
            awaited = EQUATION;
            for (int i = 0; i < length && i < ROOM; i++) {
                if (bytes[i] != ' ' && !accepts(bytes[i], target)) {
                    return i;
                }
            }
            return awaited == EQUATION ? NONE : length;
        }

        private boolean accepts(int c, Equations target) {
            switch (awaited) {
                case EQUATION:
                case LETTER:
                    return acceptsLetter(c, target);
                case BRACKET:
                    awaited = LETTER;
                    return c == '(';
                default:
                    return depth > 0 ? acceptsInside(c) : acceptsOutside(c, target);
            }
        }

        private boolean acceptsLetter(int c, Equations target) {
            if (Letters.kind(c) == NONE || !target.append(c)) {
                return false;
            }
            awaited = BEHIND;
            int parts = Letters.parts(c);
            if (parts > 0 && depth < partsLeft.length) {
                partsLeft[depth] = parts;
                depth++;
                awaited = BRACKET;
            }
            return true;
        }

        private boolean acceptsInside(int c) {
            int top = depth - 1;
            if (top < 0 || top >= partsLeft.length) {
                return false;
            }
            if (partsLeft[top] > 1) {
                partsLeft[top]--;
                awaited = LETTER;
                return c == ',';
            }
            depth = top;
            return c == ')';
        }

        private boolean acceptsOutside(int c, Equations target) {
            boolean isLeft = target.awaitsLeft();
            target.endSide();
            awaited = isLeft ? LETTER : EQUATION;
            return c == (isLeft ? '=' : ';');
        }
    }

    /** The STATES to go back to, the oldest first. */
    private static final class History {
        private static final int MOST = 5;

        private final Equations[] states = new Equations[MOST];
        private int count;

        History() {
            for (int i = 0; i < MOST; i++) {
                states[i] = new Equations();
            }
        }

        int count() {
            return count;
        }

        void push(Equations equations) {
            if (count >= MOST) {
                Equations oldest = states[0];
                for (int i = 0; i + 1 < MOST; i++) {
                    states[i] = states[i + 1];
                }
                states[MOST - 1] = oldest;
                count = MOST - 1;
            }
            states[count].copyFrom(equations);
            count++;
        }

        boolean popInto(Equations equations) {
            if (count <= 0 || count > MOST) {
                return false;
            }
            count--;
            equations.copyFrom(states[count]);
            return true;
        }
    }

    /** The PAIRS of the EQUATIONS, by the places where their sides begin. */
    private static final class Pairs {
        static final int CLASHES = 1, HALF = 2, IS_FLEX = 3;
        /** Each PAIR takes a NODE at least of both sides. */
        static final int MOST = Equations.MOST_NODES / 2;

        private final Equations equations;
        private final int[] lefts = new int[MOST];
        private final int[] rights = new int[MOST];
        private int count;

        Pairs(Equations equations) {
            this.equations = equations;
        }

        int count() {
            return count;
        }

        int left(int i) {
            return i >= 0 && i < MOST ? lefts[i] : 0;
        }

        int right(int i) {
            return i >= 0 && i < MOST ? rights[i] : 0;
        }

        int kind(int i) {
            boolean leftFlex = Letters.isFlex(equations.letterAt(left(i)));
            boolean rightFlex = Letters.isFlex(equations.letterAt(right(i)));
            if (leftFlex && rightFlex) {
                return IS_FLEX;
            }
            return leftFlex || rightFlex ? HALF : CLASHES;
        }

        int ways(int i) {
            if (kind(i) != HALF) {
                return 0;
            }
            int letter = equations.letterAt(left(i));
            return 1 + Letters.parts(Letters.isFlex(letter) ? letter : equations.letterAt(right(i)));
        }

        /** Of a kind; of all kinds, if it is 0. */
        int howMany(int kind) {
            int many = 0;
            for (int i = 0; i < count; i++) {
                if (kind == 0 || kind(i) == kind) {
                    many++;
                }
            }
            return many;
        }

        /** The last of U .. Z that stands on one of its sides. */
        int lastFlex(int i) {
            int bits = equations.flexIn(left(i), equations.nodesAt(left(i)))
                | equations.flexIn(right(i), equations.nodesAt(right(i)));
            int last = NONE;
            for (int x = 0; x < Letters.FLEX; x++) {
                if ((bits >> x & 1) != 0) {
                    last = x;
                }
            }
            return last;
        }

        void takeApart() {
            count = 0;
            for (int e = 0; e < equations.count(); e++) {
                takeApart(equations.start(e, 0), equations.start(e, 1));
            }
        }

        /** Parts stand behind their letter, so to go on by one letter is to put them in its place. */
        private void takeApart(int left, int right) {
            int end = left + equations.nodesAt(left);
            int l = left;
            int r = right;
            for (int step = 0; step < MOST && l < end; step++) {
                int letter = equations.letterAt(l);
                if (letter == equations.letterAt(r) && !Letters.isFlex(letter)) {
                    l++;
                    r++;
                } else {
                    keep(l, r);
                    l += equations.nodesAt(l);
                    r += equations.nodesAt(r);
                }
            }
        }

        private void keep(int left, int right) {
            if (count < MOST) {
                lefts[count] = left;
                rights[count] = right;
                count++;
            }
        }
    }

    /**
     * All BODIES of SIZE 1 .. 6, in their order. A BODY is a word: three bits a letter, its first
     * letter in the lowest ones, 0 behind the last. Brackets and commas follow from the letters, so
     * that the letters alone tell which of two BODIES of like SIZE is ahead.
     */
    private static final class Bodies {
        static final int LARGEST = 6;
        private static final int MOST_PARTS = 2;
        /** 188 for letters without parts, 522 for those with one, 1112 for those with two. */
        private static final int ROOM = 188 + 522 + 1112;
        /** By the order of their bytes; the code of a letter is one more than its place here. */
        private static final String CODES = "12abfg";

        private final int[] words = new int[ROOM];
        private final int[] firsts = new int[(MOST_PARTS + 1) * LARGEST + 1];
        private int count;

        Bodies() {
            for (int row = 0; row + 1 < firsts.length; row++) {
                firsts[row] = count;
                spell(row / LARGEST, 0, 0, 1, row % LARGEST + 1);
            }
            firsts[firsts.length - 1] = count;
        }

        int first(int parts, int size) {
            return bound(parts * LARGEST + size - 1);
        }

        int end(int parts, int size) {
            return bound(parts * LARGEST + size);
        }

        int word(int index) {
            return index >= 0 && index < ROOM ? words[index] : 0;
        }

        static int letterIn(int word, int place) {
            if (place < 0 || place >= LARGEST) {
                return 0;
            }
            int code = word >> 3 * place & 7;
            return code >= 1 && code <= CODES.length() ? CODES.charAt(code - 1) : 0;
        }

        static int lettersIn(int word) {
            int many = 0;
            while (many < LARGEST && letterIn(word, many) != 0) {
                many++;
            }
            return many;
        }

        static int wordFor(String letters) {
            int word = 0;
            for (int place = 0; place < letters.length() && place < LARGEST; place++) {
                word |= CODES.indexOf(letters.charAt(place)) + 1 << 3 * place;
            }
            return word;
        }

        private int bound(int row) {
            return row >= 0 && row < firsts.length ? firsts[row] : 0;
        }

        /** Goes on with each letter that leaves as many letters as the open places need. */
        private void spell(int parts, int word, int place, int open, int left) {
            if (left <= 0 || place >= LARGEST) {
                keep(word);
                return;
            }
            for (int code = 1; code <= CODES.length(); code++) {
                int still = open - 1 + Letters.parts(CODES.charAt(code - 1));
                boolean isStrange = code <= MOST_PARTS && code > parts;
                boolean endsEarly = still == 0 && left > 1;
                if (!isStrange && !endsEarly && still < left) {
                    spell(parts, word | code << 3 * place, place + 1, still, left - 1);
                }
            }
        }

        private void keep(int word) {
            if (count < ROOM) {
                words[count] = word;
                count++;
            }
        }
    }

    /**
     * A BODY for each kind of letter. That of a, b, f, g is the letter itself with its parts, so that
     * rigid and FLEX letters become their BODIES in the same way.
     */
    private static final class Choice {
        private final int[] words = new int[Letters.KINDS];
        private final int[] plain = new int[Letters.KINDS];
        private final int[] ones = new int[Letters.KINDS];
        private final int[] twos = new int[Letters.KINDS];

        Choice() {
            take(Letters.kind('a'), Bodies.wordFor("a"));
            take(Letters.kind('b'), Bodies.wordFor("b"));
            take(Letters.kind('f'), Bodies.wordFor("f1"));
            take(Letters.kind('g'), Bodies.wordFor("g12"));
        }

        void take(int kind, int word) {
            if (kind < 0 || kind >= Letters.KINDS) {
                return;
            }
            words[kind] = word;
            plain[kind] = 0;
            ones[kind] = 0;
            twos[kind] = 0;
            for (int place = 0; place < Bodies.LARGEST; place++) {
                int letter = Bodies.letterIn(word, place);
                if (letter == '1') {
                    ones[kind]++;
                } else if (letter == '2') {
                    twos[kind]++;
                } else if (letter != 0) {
                    plain[kind]++;
                }
            }
        }

        int word(int kind) {
            return kind >= 0 && kind < Letters.KINDS ? words[kind] : 0;
        }

        /** The NODES of the BODY with parts of so many NODES. */
        int nodesWith(int kind, int one, int two) {
            if (kind < 0 || kind >= Letters.KINDS) {
                return 0;
            }
            return plain[kind] + ones[kind] * one + twos[kind] * two;
        }
    }

    /** What TERMS of the EQUATIONS become by a CHOICE. */
    private static final class Growth {
        static final int MOST = 200;
        private static final int TOO_MANY = MOST + 1;
        /** The two TERMS that are compared have no more letters together than the EQUATIONS have. */
        private static final int ROOM = Equations.MOST_NODES * MOST;

        private final Equations equations;
        private final Choice choice = new Choice();
        private final int[] kinds = new int[Equations.MOST_NODES];
        private final int[] seconds = new int[Equations.MOST_NODES];
        private final int[] sizes = new int[Equations.MOST_NODES];
        private final int[] places = new int[Equations.MOST_NODES];
        private final int[] grown = new int[ROOM];
        private int used;

        Growth(Equations equations) {
            this.equations = equations;
        }

        void prepare() {
            for (int p = 0; p < Equations.MOST_NODES; p++) {
                kinds[p] = Letters.kind(equations.letterAt(p));
                seconds[p] = equations.secondOf(p);
            }
        }

        void take(int kind, int word) {
            choice.take(kind, word);
        }

        int word(int kind) {
            return choice.word(kind);
        }

        int sizeAt(int p) {
            return p >= 0 && p < sizes.length ? sizes[p] : 0;
        }

        boolean fits(int root) {
            measure(root);
            return sizeAt(root) <= MOST;
        }

        boolean agree(int left, int right) {
            measure(left);
            measure(right);
            if (sizeAt(left) > MOST || sizeAt(left) != sizeAt(right)) {
                return false;
            }
            used = 0;
            build(left);
            build(right);
            for (int k = 0; k < sizeAt(left); k++) {
                if (letterOf(left, k) != letterOf(right, k)) {
                    return false;
                }
            }
            return true;
        }

        void grow(int root) {
            used = 0;
            measure(root);
            build(root);
        }

        int letterOf(int root, int k) {
            if (root < 0 || root >= places.length) {
                return 0;
            }
            int at = places[root] + k;
            return at >= 0 && at < ROOM ? grown[at] : 0;
        }

        /**
         * A part may become too large and yet stand nowhere in what the side becomes; so TOO_MANY is
         * the most that is counted, and counts only where the part is used.
         */
        private void measure(int root) {
            int end = Math.min(root + equations.nodesAt(root), sizes.length);
            for (int p = end - 1; p >= root && p >= 0; p--) {
                int many = choice.nodesWith(kinds[p], sizeAt(p + 1), sizeAt(seconds[p]));
                sizes[p] = Math.min(many, TOO_MANY);
            }
        }

        /** A part that is too large is not built: where it is used, the whole is too large as well. */
        private void build(int root) {
            int end = Math.min(root + equations.nodesAt(root), sizes.length);
            for (int p = end - 1; p >= root && p >= 0; p--) {
                int word = sizes[p] <= MOST ? choice.word(kinds[p]) : 0;
                places[p] = used;
                for (int place = 0; place < Bodies.LARGEST; place++) {
                    int letter = Bodies.letterIn(word, place);
                    if (letter == '1') {
                        copyPart(p + 1);
                    } else if (letter == '2') {
                        copyPart(seconds[p]);
                    } else if (letter != 0 && used < ROOM) {
                        grown[used] = letter;
                        used++;
                    }
                }
            }
        }

        private void copyPart(int part) {
            if (part < 0 || part >= places.length) {
                return;
            }
            int from = places[part];
            int many = sizes[part];
            if (from >= 0 && many >= 0 && from + many <= used && used + many <= ROOM) {
                System.arraycopy(grown, from, grown, used, many);
                used += many;
            }
        }
    }

    /** The SOLUTIONS, looked for when they are asked for and kept until the EQUATIONS change. */
    private static final class Search {
        private static final int MOST = 40;
        private static final int LARGEST = 6;

        private final Equations equations;
        private final Pairs pairs;
        private final Bodies bodies;
        private final Growth growth;
        private final int[] standing = new int[Letters.FLEX];
        private final int[] lastLetters = new int[Pairs.MOST];
        private final int[] words = new int[MOST * Letters.FLEX];
        private int letters;
        private int count;
        private boolean isKnown;

        Search(Equations equations, Pairs pairs, Bodies bodies, Growth growth) {
            this.equations = equations;
            this.pairs = pairs;
            this.bodies = bodies;
            this.growth = growth;
        }

        void forget() {
            isKnown = false;
        }

        int found() {
            if (isKnown) {
                return count;
            }
            isKnown = true;
            count = 0;
            prepare();
            // No CHOICE changes a front that is not FLEX, so a clash leaves nothing to look for.
            int largest = pairs.howMany(Pairs.CLASHES) == 0 ? LARGEST : NONE;
            for (int size = letters; size <= largest; size++) {
                lookThrough(0, size);
            }
            return count;
        }

        /** The BODY of a FLEX letter; 0, if it does not stand in the EQUATIONS. */
        int wordOf(int i, int x) {
            return i >= 0 && i < MOST && x >= 0 && x < Letters.FLEX ? words[i * Letters.FLEX + x] : 0;
        }

        int sizeOf(int i) {
            int size = 0;
            for (int x = 0; x < Letters.FLEX; x++) {
                size += Bodies.lettersIn(wordOf(i, x));
            }
            return size;
        }

        void take(int i) {
            for (int x = 0; x < Letters.FLEX; x++) {
                growth.take(x, wordOf(i, x));
            }
        }

        private void prepare() {
            int bits = equations.flexIn(0, equations.total());
            letters = 0;
            for (int x = 0; x < Letters.FLEX; x++) {
                growth.take(x, 0);
                if ((bits >> x & 1) != 0) {
                    standing[letters] = x;
                    letters++;
                }
            }
            for (int i = 0; i < pairs.count() && i < Pairs.MOST; i++) {
                lastLetters[i] = pairs.lastFlex(i);
            }
        }

        /** Goes through the BODIES of the letters from depth on that have SIZE left together. */
        private void lookThrough(int depth, int left) {
            if (depth >= letters || depth >= Letters.FLEX) {
                if (left == 0) {
                    keepIfItFits();
                }
                return;
            }
            int x = standing[depth];
            int parts = Letters.parts('U' + x);
            int behind = letters - depth - 1;
            for (int size = behind == 0 ? left : 1; size <= left - behind; size++) {
                int end = bodies.end(parts, size);
                for (int b = bodies.first(parts, size); b < end && count < MOST; b++) {
                    growth.take(x, bodies.word(b));
                    if (pairsAgree(x)) {
                        lookThrough(depth + 1, left - size);
                    }
                }
            }
        }

        /** Looks at those PAIRS only whose last letter is x: by it all their letters are chosen. */
        private boolean pairsAgree(int x) {
            for (int i = 0; i < pairs.count() && i < Pairs.MOST; i++) {
                if (lastLetters[i] == x && !growth.agree(pairs.left(i), pairs.right(i))) {
                    return false;
                }
            }
            return true;
        }

        /** As the PAIRS agree, RIGHT is as large as LEFT. */
        private void keepIfItFits() {
            for (int e = 0; e < equations.count(); e++) {
                if (!growth.fits(equations.start(e, 0))) {
                    return;
                }
            }
            if (count < MOST) {
                for (int x = 0; x < Letters.FLEX; x++) {
                    words[count * Letters.FLEX + x] = growth.word(x);
                }
                count++;
            }
        }
    }

    /** Letters with the brackets and commas that follow from them. */
    private static final class Writing {
        private static final int ROOM = 160;

        private final int[] bytes = new int[ROOM];
        private final int[] partsLeft = new int[Equations.MOST_NODES];
        private int length;
        private int depth;

        void begin() {
            length = 0;
            depth = 0;
        }

        int length() {
            return length;
        }

        int byteAt(int k) {
            return k >= 0 && k < length && k < ROOM ? bytes[k] : NOT_SO_MANY;
        }

        void putTerm(Equations equations, int root) {
            int end = root + equations.nodesAt(root);
            for (int p = root; p < end; p++) {
                putLetter(equations.letterAt(p));
            }
        }

        void putBody(int word) {
            for (int place = 0; place < Bodies.lettersIn(word); place++) {
                putLetter(Bodies.letterIn(word, place));
            }
        }

        void put(int c) {
            if (length < ROOM) {
                bytes[length] = c;
                length++;
            }
        }

        private void putLetter(int letter) {
            put(letter);
            int parts = Letters.parts(letter);
            if (parts > 0 && depth < partsLeft.length) {
                partsLeft[depth] = parts;
                depth++;
                put('(');
            } else {
                endTerm();
            }
        }

        /** A TERM that ends may be the last part of the one around it, which then ends too. */
        private void endTerm() {
            for (int top = depth - 1; top >= 0 && top < partsLeft.length; top--) {
                partsLeft[top]--;
                if (partsLeft[top] > 0) {
                    put(',');
                    return;
                }
                put(')');
                depth = top;
            }
        }
    }
}
