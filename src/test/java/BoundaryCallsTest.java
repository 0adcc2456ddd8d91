import java.math.BigInteger;
import java.util.function.Consumer;
import java.util.function.ToIntFunction;

/**
 * The boundaries that the document names in its promises 1 to 18. A case for each: just below the boundary,
 * at it, just above it. Each refusal is also held to change nothing but how often was refused.
 */
public final class BoundaryCallsTest {
    private static final int NONE = Probe.NONE, BAD = Probe.BAD, NO = Probe.NO, FULL = Probe.FULL, NOT_SO_MANY = Probe.NOT_SO_MANY;
    private static final int U = Probe.U, V = Probe.V, W = Probe.W, X = Probe.X, Y = Probe.Y, Z = Probe.Z;
    private static final int LEAST = Integer.MIN_VALUE, MOST = Integer.MAX_VALUE;
    private static final String[] MANY = {"", "U=f(a);", "U=f(a);V(a)=b;", "U=f(a);V(a)=b;f(b)=X;", "U=f(a);V(a)=b;f(b)=X;b=Y(b);"};

    public static void main(String[] args) throws IllegalAccessException {
        Cases.run(BoundaryCallsTest.class);
    }

    private static void due(String call, long got, long want) {
        Cases.due(call, got, want);
    }

    private static void due(String call, String got, String want) {
        Cases.due(call, got, want);
    }

    /** Two EQUATIONS with four SOLUTIONS, three STATES, a TEXT of its own, all refusals counted unlike. */
    private static void made(Probe x) {
        x.back();
        x.back();
        x.tell("W(a,b)=g(a,b);");
        x.tell("f(U)=f(b);g(a,b)=W(a,b);");
        x.turns(1);
        x.told(8);
        x.clear();
        x.types("X=f(a);");
    }

    private static void refuses(String call, int why, ToIntFunction<Probe> asked) {
        Probe.refused(call, why, BoundaryCallsTest::made, asked);
    }

    private static void answers(String call, int want, ToIntFunction<Probe> asked) {
        Probe.answers(call, want, BoundaryCallsTest::made, asked);
    }

    private static Consumer<Probe> told(String text) {
        return x -> x.tell(text);
    }

    private static String nested(String letter, int high, String inside) {
        return (letter + "(").repeat(high) + inside + ")".repeat(high);
    }

    /** So many EQUATIONS of MANY but the one at e. */
    private static String without(int many, int e) {
        String[] all = MANY[many].split("(?<=;)");
        all[e] = "";
        return String.join("", all);
    }

    // ---- 1

    @Cases.Says("As told; no EQUATIONS.")
    private static void promise1_newObject_thereIsNothing() {
        Probe x = new Probe();
        for (int what = 0; what < 8; what++) {
            due("told " + what, x.told(what), 0);
        }
        for (int what = 0; what < 4; what++) {
            due("pairs " + what, x.pairs(what), 0);
        }
        due("pair", x.pair(0, 0), NOT_SO_MANY);
        due("solutions", x.solutions(), 1);
        due("size", x.size(0), 0);
        due("no second solution", x.size(1), NO);
        for (int letter = U; letter <= Z; letter++) {
            due("body", x.body(0, letter, NONE), NOT_SO_MANY);
        }
        due("clear", x.clear(), 0);
        due("reads", x.reads(), 0);
    }

    @Cases.Says("As told; no EQUATIONS.")
    private static void promise1_newObject_noEquation0() {
        Consumer<Probe> nothing = x -> { };
        Probe.refused("drops", BAD, nothing, x -> x.drops(0));
        Probe.refused("turns", BAD, nothing, x -> x.turns(0));
        Probe.refused("of", BAD, nothing, x -> x.of(0, 0, 0));
        Probe.refused("shown", BAD, nothing, x -> x.shown(0, NONE));
        Probe.refused("becomes", BAD, nothing, x -> x.becomes(0, 0, 0, NONE));
        Probe.refused("back", NO, nothing, x -> x.back());
        due("digest", new Probe().digest(), digestOf(0, 0, 0, 0, 0, 0, 0, 0, 0, 0, 0, 0, 1, 0));
    }

    @Cases.Says("As told; no EQUATIONS.")
    private static void promise1_newObject_sharesNothing() {
        Probe one = Probe.with("U=a;");
        one.told(8);
        Probe other = new Probe();
        due("all of another", other.everything(), new Probe().everything());
        due("counts of another", Probe.with("").told(0), 0);
        due("the first one", one.equations(), "U=a;");
    }

    // ---- 2

    @Cases.Says("A byte (0 .. 127) comes behind THE TEXT: how many it has. BAD")
    private static void promise2_type_byteIs0To127() {
        for (int c = 0; c <= 127; c++) {
            Probe x = new Probe();
            due("type " + c, x.type(c), 1);
            due("bytes", x.told(3), 1);
        }
        for (int c : new int[] {LEAST, -33, -1, 128, 129, 'a' + 256, ' ' + 65536, MOST}) {
            refuses("type " + c, BAD, x -> x.type(c));
        }
    }

    @Cases.Says("FULL: 120.")
    private static void promise2_type_fullAt120() {
        Probe x = new Probe();
        for (int n = 1; n <= 120; n++) {
            due("type", x.type(' '), n);
        }
        for (int c : new int[] {0, 'a', 127}) {
            due("type", x.type(c), FULL);
            due("bytes", x.told(3), 120);
        }
        due("fulls", x.told(2), 3);
        due("the text is as it was", x.reads(), 0);
        due("clear", x.clear(), 120);
        due("there is room again", x.type('a'), 1);
        String text = nested("f", 38, "a") + "=b;";
        Consumer<Probe> full = y -> y.types(" " + text + " ");
        Probe.refused("type", FULL, full, y -> y.type(';'));
        Probe.refused("type", BAD, full, y -> y.type(128));
        Probe.refused("type", BAD, full, y -> y.type(-1));
    }

    @Cases.Says("A byte (0 .. 127) comes behind THE TEXT")
    private static void promise2_type_comesBehindWhatWasRead() {
        Probe x = Probe.with("U=a;");
        due("type", x.type('X'), 5);
        x.types("=b;");
        due("reads", x.reads(), 2);
        due("equations", x.equations(), "U=a;X=b;");
    }

    // ---- 3

    @Cases.Says("THE TEXT is empty: how many it had.")
    private static void promise3_clear_emptyToFull() {
        for (int many : new int[] {0, 1, 119, 120}) {
            Probe x = new Probe();
            x.types(" ".repeat(many));
            due("clear of " + many, x.clear(), many);
            due("bytes", x.told(3), 0);
            due("clear again", x.clear(), 0);
            due("reads", x.reads(), 0);
        }
        Probe y = new Probe();
        y.types("a".repeat(121));
        due("clear after a refused one", y.clear(), 120);
        y.types("U=a;");
        due("what had stood there is gone", y.reads(), 1);
    }

    @Cases.Says("THE TEXT is empty: how many it had.")
    private static void promise3_clear_equationsAndStatesStay() {
        Probe x = new Probe();
        Probe twin = new Probe();
        made(x);
        made(twin);
        due("clear", x.clear(), 7);
        x.types("X=f(a);");
        due("all there is", x.everything(), twin.everything());
    }

    // ---- 4

    @Cases.Says("EQUATIONS become those of THE TEXT (which stays): how many. S.")
    private static void promise4_reads_0To4() {
        for (int many = 0; many <= 4; many++) {
            Probe x = Probe.with("X=a;b=X;");
            due("reads", x.tell(MANY[many]), many);
            due("equations", x.equations(), MANY[many]);
            due("the text stays", x.told(3), MANY[many].length());
            due("reads again", x.reads(), many);
            due("equations", x.equations(), MANY[many]);
            due("states", x.told(7), 3);
        }
    }

    @Cases.Says("-10 less the FAULT: all stays.")
    private static void promise4_reads_faultAt0To120() {
        String[] texts = {"", " ", "a=", "a=a;", " ".repeat(118), " ".repeat(119)};
        for (String ahead : texts) {
            for (String last : new String[] {")", "\u0000", "\u007f"}) {
                Consumer<Probe> faulty = x -> {
                    x.tell("V(a)=b;");
                    x.turns(0);
                    x.clear();
                    x.types(ahead + last);
                };
                Probe.answers("reads", -10 - ahead.length(), faulty, x -> x.reads());
            }
        }
        Consumer<Probe> early = x -> x.types(" ".repeat(119) + "a");
        Probe.answers("reads", -130, early, x -> x.reads());
    }

    @Cases.Says("-10 less the FAULT: all stays.")
    private static void promise4_reads_faultAfterWholeEquations() {
        Probe x = Probe.with("U=f(a);");
        due("solutions", x.solutions(), 1);
        due("reads", x.tell("V(a)=a;X=b;c"), -10 - 11);
        due("equations", x.equations(), "U=f(a);");
        due("solution", x.solution(0), "U=f(a)");
        due("pairs", x.pair(0, 0), 'U');
        due("nodes", x.told(5), 3);
        due("the text stays", x.told(3), 12);
        due("states", x.told(7), 1);
    }

    // ---- 5

    @Cases.Says("An EQUATION goes (those behind it are one nearer): how many are left. S. BAD.")
    private static void promise5_drops_firstToLast() {
        for (int many = 0; many <= 4; many++) {
            for (int e = 0; e < many; e++) {
                Probe x = Probe.with(MANY[many]);
                x.solutions();
                Probe want = Probe.with(without(many, e));
                due("drops " + e + " of " + many, x.drops(e), many - 1);
                due("equations", x.equations(), without(many, e));
                due("states", x.told(7), 2);
                due("nodes", x.told(5), want.told(5));
                due("flex", x.told(6), want.told(6));
                due("pairs", x.pairs(0), want.pairs(0));
                due("solution", x.solution(0), want.solution(0));
                due("back", x.back(), 1);
                due("equations", x.equations(), MANY[many]);
            }
        }
    }

    @Cases.Says("An EQUATION goes (those behind it are one nearer): how many are left. S. BAD.")
    private static void promise5_drops_badBelow0AndBehindTheLast() {
        for (int many = 0; many <= 4; many++) {
            for (int e : new int[] {LEAST, -1, many, many + 1, MOST}) {
                Probe.refused("drops " + e + " of " + many, BAD, told(MANY[many]), x -> x.drops(e));
            }
        }
        Probe x = Probe.with(MANY[4]);
        for (int left = 3; left >= 0; left--) {
            due("drops", x.drops(0), left);
        }
        due("none is left", x.drops(0), BAD);
        due("states", x.told(7), 5);
    }

    @Cases.Says("those behind it are one nearer")
    private static void promise5_drops_thoseBehindAreWhole() {
        for (int e = 0; e < 4; e++) {
            for (int other = 0; other < 3; other++) {
                int was = other < e ? other : other + 1;
                String[] left = full();
                Probe x = Probe.with(String.join("", left));
                x.drops(e);
                left[e] = "";
                left[was] = turned(left[was]);
                due("turns " + other, x.turns(other), Probe.with(left[was]).of(0, 0, 0));
                due("equations", x.equations(), String.join("", left));
                left[was] = "";
                due("drops " + other, x.drops(other), 2);
                due("equations", x.equations(), String.join("", left));
            }
        }
    }

    private static String turned(String equation) {
        int middle = equation.indexOf('=');
        return equation.substring(middle + 1, equation.length() - 1) + "=" + equation.substring(0, middle) + ";";
    }

    /** Four EQUATIONS of 40 NODES in all, no two with as many NODES. */
    private static String[] full() {
        String chain = nested("f", 13, "a");
        return new String[] {"a=b;", "U=f(f(X));", chain + "=" + nested("f", 14, "U") + ";", "g(a,f(U))=b;"};
    }

    @Cases.Says("An EQUATION goes (those behind it are one nearer): how many are left.")
    private static void promise5_drops_of40Nodes() {
        due("nodes", Probe.with(String.join("", full())).told(5), 40);
        for (int e = 0; e < 4; e++) {
            String[] left = full();
            Probe x = Probe.with(String.join("", left));
            int nodes = 40 - x.of(e, 0, 0) - x.of(e, 1, 0);
            left[e] = "";
            due("drops", x.drops(e), 3);
            due("nodes", x.told(5), nodes);
            due("equations", x.equations(), String.join("", left));
            due("back", x.back(), 1);
            due("equations", x.equations(), String.join("", full()));
        }
    }

    // ---- 6

    @Cases.Says("LEFT (side 0) and RIGHT (1) of an EQUATION change places: NODES of LEFT then. S. BAD.")
    private static void promise6_turns_firstToLast() {
        String[] turned = {"f(a)=U;", "b=V(a);", "X=f(b);", "Y(b)=b;"};
        int[] nodes = {2, 1, 1, 2};
        for (int many = 1; many <= 4; many++) {
            for (int e = 0; e < many; e++) {
                String[] all = MANY[many].split("(?<=;)");
                all[e] = turned[e];
                Probe x = Probe.with(MANY[many]);
                due("solutions", x.solutions(), Probe.with(MANY[many]).solutions());
                due("turns " + e + " of " + many, x.turns(e), nodes[e]);
                due("equations", x.equations(), String.join("", all));
                due("states", x.told(7), 2);
                due("pair", x.pair(e, 0), turned[e].charAt(0));
                due("solutions", x.solutions(), Probe.with(MANY[many]).solutions());
                due("becomes", x.becomes(0, e, 0, NONE), x.becomes(0, e, 1, NONE));
                due("turns back", x.turns(e), Probe.with(MANY[many]).of(e, 0, 0));
                due("equations", x.equations(), MANY[many]);
            }
        }
    }

    @Cases.Says("LEFT (side 0) and RIGHT (1) of an EQUATION change places: NODES of LEFT then. S. BAD.")
    private static void promise6_turns_badBelow0AndBehindTheLast() {
        for (int many = 0; many <= 4; many++) {
            for (int e : new int[] {LEAST, -1, many, many + 1, MOST}) {
                Probe.refused("turns " + e + " of " + many, BAD, told(MANY[many]), x -> x.turns(e));
            }
        }
    }

    @Cases.Says("NODES of LEFT then.")
    private static void promise6_turns_1And39Nodes() {
        String chain = nested("f", 38, "b");
        Probe x = Probe.with(chain + "=U;");
        due("turns", x.turns(0), 1);
        due("left", x.of(0, 0, 0), 1);
        due("right", x.of(0, 1, 0), 39);
        due("turns", x.turns(0), 39);
        due("equations", x.equations(), chain + "=U;");
    }

    @Cases.Says("LEFT (side 0) and RIGHT (1) of an EQUATION change places")
    private static void promise6_turns_of40Nodes() {
        for (int e = 0; e < 4; e++) {
            String[] all = full();
            Probe x = Probe.with(String.join("", all));
            int nodes = x.of(e, 1, 0);
            all[e] = turned(all[e]);
            due("turns", x.turns(e), nodes);
            due("nodes", x.told(5), 40);
            due("equations", x.equations(), String.join("", all));
            due("back", x.back(), 1);
            due("equations", x.equations(), String.join("", full()));
        }
    }

    // ---- 7

    @Cases.Says("Of a side (0, 1) of an EQUATION: NODES (what 0), FLEX letters in it (1, bits)")
    private static void promise7_of_nodesAndFlexLeastAndMost() {
        Probe x = Probe.with("a=Z(W(U,X),V(Y(b)));");
        due("1 node", x.of(0, 0, 0), 1);
        due("no letters", x.of(0, 0, 1), 0);
        due("7 nodes", x.of(0, 1, 0), 7);
        due("all letters", x.of(0, 1, 1), 63);
        due("39 nodes", Probe.with("U=" + nested("f", 38, "b") + ";").of(0, 1, 0), 39);
        due("letters of this side alone", Probe.with("U=X;V(a)=b;").of(0, 0, 1), 1);
        due("letters of this side alone", Probe.with("U=X;V(a)=b;").of(0, 1, 1), 8);
        due("letters of this equation alone", Probe.with("U=X;V(a)=b;").of(1, 0, 1), 2);
    }

    @Cases.Says("how deep it is (2: 1 for a letter without parts), the byte of its first letter (3).")
    private static void promise7_of_deepAndFirstLetter() {
        for (String leaf : new String[] {"a", "b", "U", "X"}) {
            due("a letter", Probe.with(leaf + "=a;").of(0, 0, 2), 1);
            due("its byte", Probe.with(leaf + "=a;").of(0, 0, 3), leaf.charAt(0));
        }
        for (String two : new String[] {"f(a)", "g(a,a)", "V(a)", "W(a,a)", "Y(a)", "Z(a,a)"}) {
            due("with parts", Probe.with(two + "=a;").of(0, 0, 2), 2);
            due("its byte", Probe.with("a=" + two + ";").of(0, 1, 3), two.charAt(0));
        }
        due("first part deeper", Probe.with("g(f(a),a)=a;").of(0, 0, 2), 3);
        due("second part deeper", Probe.with("g(a,f(a))=a;").of(0, 0, 2), 3);
        due("deepest", Probe.with(nested("f", 38, "a") + "=a;").of(0, 0, 2), 39);
    }

    @Cases.Says("Of a side (0, 1) of an EQUATION: NODES (what 0), FLEX letters in it (1, bits), "
        + "how deep it is (2: 1 for a letter without parts), the byte of its first letter (3). BAD.")
    private static void promise7_of_bad() {
        for (int far : new int[] {LEAST, -1, MOST}) {
            refuses("of equation " + far, BAD, x -> x.of(far, 0, 0));
            refuses("of side " + far, BAD, x -> x.of(0, far, 0));
            refuses("of what " + far, BAD, x -> x.of(0, 0, far));
        }
        refuses("of equation 2", BAD, x -> x.of(2, 0, 0));
        refuses("of side 2", BAD, x -> x.of(0, 2, 0));
        refuses("of what 4", BAD, x -> x.of(0, 0, 4));
        answers("of the last", 'g', x -> x.of(1, 1, 3) == 'g' && x.of(1, 0, 3) == 'W' ? 'g' : 0);
        Probe.refused("of equation 4", BAD, told(MANY[4]), x -> x.of(4, 0, 0));
        due("of equation 3", Probe.with(MANY[4]).of(3, 1, 3), 'Y');
    }

    // ---- 8

    @Cases.Says("The k-th byte (0 on) of EQUATION e, written without blanks, with = between (no ;); how many (k NONE); -5: not so many.")
    private static void promise8_shown_firstToLastByte() {
        String[] texts = {"a=b", "g(f(U),X)=W(V(a),Z(b,Y(a)))", nested("f", 38, "a") + "=U", "U=" + nested("V", 38, "a")};
        for (String text : texts) {
            Probe x = new Probe();
            due("reads", x.tell(text.length() < 50 ? text.replaceAll("", " ") + "; " : text + ";"), 1);
            due("how many", x.shown(0, NONE), text.length());
            for (int k = 0; k < text.length(); k++) {
                due("byte " + k, x.shown(0, k), text.charAt(k));
            }
            due("behind the last", x.shown(0, text.length()), NOT_SO_MANY);
            due("far behind it", x.shown(0, MOST), NOT_SO_MANY);
            due("no refusal", x.told(0) + x.told(1), 0);
        }
        answers("shown, behind the last", NOT_SO_MANY, x -> x.shown(0, 9));
        answers("shown, the last", ')', x -> x.shown(0, 8));
    }

    @Cases.Says("BAD: k below -1, too.")
    private static void promise8_shown_bad() {
        for (int k : new int[] {LEAST, -3, -2}) {
            refuses("shown k " + k, BAD, x -> x.shown(0, k));
        }
        for (int e : new int[] {LEAST, -1, 2, MOST}) {
            refuses("shown equation " + e, BAD, x -> x.shown(e, NONE));
            refuses("shown equation " + e, BAD, x -> x.shown(e, 0));
        }
        answers("shown, NONE", 13, x -> x.shown(1, NONE));
        Probe.refused("shown equation 4", BAD, told(MANY[4]), x -> x.shown(4, NONE));
        due("shown equation 3", Probe.with(MANY[4]).shown(3, NONE), 6);
    }

    // ---- 9

    @Cases.Says("How many PAIRS (what 0), that CLASH (1), HALF (2), FLEX (3). BAD.")
    private static void promise9_pairs_noneToAsManyAsThereCanBe() {
        due("none", Probe.with("f(a)=f(a);").pairs(0), 0);
        // 3 leaves a side in each of four EQUATIONS: no 40 NODES have more PAIRS.
        String[] sides = {"g(U,g(a,X))=g(X,g(b,a));", "g(a,g(U,X))=g(b,g(U,U));", "g(b,g(b,X))=g(a,g(a,b));", "g(U,g(U,U))=g(a,g(b,a));"};
        Probe x = Probe.with(String.join("", sides));
        due("nodes", x.told(5), 40);
        int[] want = {12, 4, 5, 3};
        for (int what = 0; what < 4; what++) {
            due("pairs " + what, x.pairs(what), want[what]);
        }
        due("the last", x.pair(11, 0), 'U');
        due("the last", x.pair(11, 1), 'a');
        due("behind it", x.pair(12, 0), NOT_SO_MANY);
    }

    @Cases.Says("How many PAIRS (what 0), that CLASH (1), HALF (2), FLEX (3). BAD.")
    private static void promise9_pairs_bad() {
        for (int what : new int[] {LEAST, -1, 4, MOST}) {
            refuses("pairs " + what, BAD, x -> x.pairs(what));
        }
        int[] want = {3, 0, 3, 0};
        for (int what = 0; what < 4; what++) {
            int asked = what;
            Probe.answers("pairs " + what, want[what], told("f(U)=f(b);g(V(a),b)=g(b,X);"), x -> x.pairs(asked));
        }
    }

    // ---- 10

    @Cases.Says("Of the i-th PAIR (0 on): the bytes of the first letters of both sides (what 0, 1), NODES of them (2, 3), "
        + "1 CLASHES, 2 HALF, 3 FLEX (4), WAYS (5; 0: not HALF)")
    private static void promise10_pair_each() {
        Probe x = Probe.with("g(f(a),V(a))=g(b,W(a,U));Z(a,b)=f(a);g(a,a)=Y(f(b));b=U;");
        int[][] want = {{'f', 'b', 2, 1, 1, 0}, {'V', 'W', 2, 3, 3, 0}, {'Z', 'f', 3, 2, 2, 3}, {'g', 'Y', 3, 3, 2, 2}, {'b', 'U', 1, 1, 2, 1}};
        for (int i = 0; i < want.length; i++) {
            for (int what = 0; what < 6; what++) {
                due("pair " + i + " " + what, x.pair(i, what), want[i][what]);
            }
        }
        due("39 nodes", Probe.with("U=" + nested("f", 38, "a") + ";").pair(0, 3), 39);
        due("39 nodes", Probe.with(nested("f", 38, "a") + "=X;").pair(0, 2), 39);
    }

    @Cases.Says("-5: not so many. BAD: i below 0, too.")
    private static void promise10_pair_notSoManyAndBad() {
        for (int i : new int[] {LEAST, -1}) {
            refuses("pair " + i, BAD, x -> x.pair(i, 0));
        }
        for (int what : new int[] {LEAST, -1, 6, MOST}) {
            refuses("pair what " + what, BAD, x -> x.pair(0, what));
            refuses("pair what " + what + ", not so many", BAD, x -> x.pair(2, what));
        }
        for (int what = 0; what < 6; what++) {
            int asked = what;
            answers("pair behind the last", NOT_SO_MANY, x -> x.pair(2, asked));
            answers("pair far behind it", NOT_SO_MANY, x -> x.pair(MOST, asked));
            Probe.answers("pair of none", NOT_SO_MANY, told("a=a;"), x -> x.pair(0, asked));
        }
        answers("the last pair", 'W', x -> x.pair(1, 0));
        answers("the last pair's last", 3, x -> x.pair(1, 5));
    }

    // ---- 11

    @Cases.Says("How many SOLUTIONS (40 at most).")
    private static void promise11_solutions_0To40() {
        due("none, as fronts clash", Probe.with("a=b;").solutions(), 0);
        due("none, though no fronts clash", Probe.with("U=f(U);").solutions(), 0);
        due("none, as a second equation is not met", Probe.with("U=a;U=b;").solutions(), 0);
        due("one", Probe.with("U=a;").solutions(), 1);
        due("one, without letters", Probe.with("a=a;").solutions(), 1);
        due("none, without letters", Probe.with("f(a)=f(b);").solutions(), 0);
        due("39", Probe.with("V(a)=g(U,Z(X,a));").solutions(), 39);
        due("40", Probe.with("V(a)=Y(a);").solutions(), 40);
        due("41", Probe.with("V(Y(U))=g(a,a);").solutions(), 40);
        due("188", Probe.with("U=U;").solutions(), 40);
        due("1112", Probe.with("W(a,a)=W(a,a);").solutions(), 40);
    }

    @Cases.Says("How many SOLUTIONS (40 at most).")
    private static void promise11_solutions_ofTheEquationsOfNow() {
        Probe x = Probe.with("V(a)=a;");
        due("solutions", x.solutions(), 2);
        x.tell("V(a)=a;V(b)=b;");
        due("after reads", x.solutions(), 1);
        x.turns(0);
        due("after turns", x.solutions(), 1);
        x.drops(1);
        due("after drops", x.solutions(), 2);
        x.back();
        due("after back", x.solutions(), 1);
        x.tell("V(a)=");
        due("after a FAULT", x.solutions(), 1);
        x.clear();
        due("after clear", x.solutions(), 1);
    }

    // ---- 12

    @Cases.Says("SIZE of the i-th SOLUTION (0 on). BAD: i below 0; NO: not so many.")
    private static void promise12_size_badAndNo() {
        for (int i : new int[] {LEAST, -1}) {
            refuses("size " + i, BAD, x -> x.size(i));
        }
        for (int i : new int[] {4, 5, 39, 40, MOST}) {
            refuses("size " + i, NO, x -> x.size(i));
        }
        answers("size of the first", 4, x -> x.size(0));
        answers("size of the last", 4, x -> x.size(3));
        Probe.refused("size, no solutions", NO, told("a=b;"), x -> x.size(0));
        Probe.refused("size, no solutions", BAD, told("a=b;"), x -> x.size(-1));
        Probe.refused("size, one solution", NO, told("U=a;"), x -> x.size(1));
        Probe.refused("size 40 of 40", NO, told("V(a)=Y(a);"), x -> x.size(40));
        Probe.refused("size 40 of 41", NO, told("V(Y(U))=g(a,a);"), x -> x.size(40));
        Probe.refused("size 39 of 39", NO, told("V(a)=g(U,Z(X,a));"), x -> x.size(39));
    }

    @Cases.Says("SIZE of the i-th SOLUTION (0 on).")
    private static void promise12_size_0To6() {
        due("0", Probe.with("a=a;").size(0), 0);
        String body = "a";
        for (int size = 1; size <= 6; size++) {
            due("size", Probe.with("U=" + body + ";").size(0), size);
            body = "f(" + body + ")";
        }
        due("7", Probe.with("U=" + body + ";").size(0), NO);
        int[] want = {3, 3, 5, 5};
        for (int i = 0; i < want.length; i++) {
            due("size " + i, Probe.with("U=f(X);").size(i), want[i]);
        }
    }

    // ---- 13

    @Cases.Says("Of the BODY for a FLEX letter x (0 .. 5) in the i-th SOLUTION: SIZE (k NONE), the k-th byte as written (k 0 on); "
        + "-5: not so many, x does not stand in the EQUATIONS.")
    private static void promise13_body_firstToLastByte() {
        String[] bodies = {"a", "f(b)", "g(f(a),b)", "f(f(f(f(f(a)))))", "g(f(a),g(a,b))"};
        int[] sizes = {1, 2, 4, 6, 6};
        for (int n = 0; n < bodies.length; n++) {
            for (int letter : new int[] {U, X}) {
                Probe x = Probe.with("UVWXYZ".charAt(letter) + "=" + bodies[n] + ";");
                due("size", x.body(0, letter, NONE), sizes[n]);
                for (int k = 0; k < bodies[n].length(); k++) {
                    due("byte " + k, x.body(0, letter, k), bodies[n].charAt(k));
                }
                due("behind the last", x.body(0, letter, bodies[n].length()), NOT_SO_MANY);
                due("far behind it", x.body(0, letter, MOST), NOT_SO_MANY);
                due("no refusal", x.told(0) + x.told(1), 0);
            }
        }
        answers("the last byte", ')', x -> x.body(3, W, 5));
        answers("behind it", NOT_SO_MANY, x -> x.body(3, W, 6));
    }

    @Cases.Says("-5: not so many, x does not stand in the EQUATIONS.")
    private static void promise13_body_letterThatDoesNotStandThere() {
        for (int letter : new int[] {V, X, Y, Z}) {
            for (int k : new int[] {NONE, 0, 1, MOST}) {
                answers("body of " + letter + " at " + k, NOT_SO_MANY, x -> x.body(0, letter, k));
            }
        }
        Probe x = Probe.with("U=a;X=b;");
        due("X stands there", x.body(0, X, 0), 'b');
        x.drops(1);
        due("it stands there no more", x.body(0, X, 0), NOT_SO_MANY);
        due("it stands there no more", x.body(0, X, NONE), NOT_SO_MANY);
        due("U does", x.body(0, U, 0), 'a');
        x.back();
        due("it is back", x.body(0, X, NONE), 1);
    }

    @Cases.Says("BAD: i below 0, k below -1, too; NO: not so many SOLUTIONS.")
    private static void promise13_body_badAndNo() {
        for (int far : new int[] {LEAST, -2}) {
            refuses("body i " + far, BAD, x -> x.body(far, W, 0));
            refuses("body x " + far, BAD, x -> x.body(0, far, 0));
            refuses("body k " + far, BAD, x -> x.body(0, W, far));
            refuses("body k " + far + ", letter not there", BAD, x -> x.body(0, V, far));
        }
        refuses("body i -1", BAD, x -> x.body(-1, W, 0));
        refuses("body x -1", BAD, x -> x.body(0, -1, 0));
        refuses("body x 6", BAD, x -> x.body(0, 6, 0));
        refuses("body x far", BAD, x -> x.body(0, MOST, 0));
        refuses("body x 6, not so many", BAD, x -> x.body(4, 6, 0));
        refuses("body k -2, not so many", BAD, x -> x.body(4, W, -2));
        for (int i : new int[] {4, 5, 40, MOST}) {
            refuses("body i " + i, NO, x -> x.body(i, W, 0));
            refuses("body i " + i, NO, x -> x.body(i, W, NONE));
            refuses("body i " + i + ", letter not there", NO, x -> x.body(i, V, NONE));
            refuses("body i " + i + ", byte not there", NO, x -> x.body(i, W, MOST));
        }
        answers("body of the first", 3, x -> x.body(0, W, NONE));
        answers("body of the last", 3, x -> x.body(3, W, NONE));
        Probe.refused("body, no solutions", NO, told("a=b;"), x -> x.body(0, U, 0));
        Probe.refused("body 40 of 40", NO, told("V(a)=Y(a);"), x -> x.body(40, V, 0));
        due("body 39 of 40", Probe.with("V(a)=Y(a);").body(39, V, NONE) > 0 ? 1 : 0, 1);
    }

    // ---- 14

    @Cases.Says("NODES (k NONE), the k-th letter of it, by bytes, as it is written from the left (k 0 on; no brackets, no commas); -5: not so many.")
    private static void promise14_becomes_firstToLastLetter() {
        Probe x = Probe.with("Z(V(a),b)=g(b,f(a));V(b)=f(b);f(U)=f(a);a=U;");
        String[] want = {"gbfa", "fb", "fa", "a"};
        due("solution", x.solution(0), "U=a V=f(1) Z=g(2,1)");
        for (int e = 0; e < want.length; e++) {
            for (int side = 0; side <= 1; side++) {
                due("nodes", x.becomes(0, e, side, NONE), want[e].length());
                for (int k = 0; k < want[e].length(); k++) {
                    due("letter " + k, x.becomes(0, e, side, k), want[e].charAt(k));
                }
                due("behind the last", x.becomes(0, e, side, want[e].length()), NOT_SO_MANY);
                due("far behind it", x.becomes(0, e, side, MOST), NOT_SO_MANY);
            }
        }
        due("no refusal", x.told(0) + x.told(1), 0);
        answers("the last letter", 'b', y -> y.becomes(0, 1, 0, 2));
        answers("behind it", NOT_SO_MANY, y -> y.becomes(0, 1, 0, 3));
    }

    @Cases.Says("What a side of EQUATION e becomes by the i-th SOLUTION: NODES (k NONE)")
    private static void promise14_becomes_1To200Nodes() {
        due("1 node", Probe.with("V(a)=a;").becomes(1, 0, 0, NONE), 1);
        due("no letters", Probe.with("f(a)=f(a);").grown(0, 0, 1), "fa");
        String three = nested("V", 3, "a");
        String side = "g(" + three + ",g(" + three + "," + three + "))";
        String text = side + "=" + side + ";V(a)=g(a,g(a,f(a)));";
        String grown = "a";
        for (int n = 0; n < 3; n++) {
            grown = "g" + grown + "g" + grown + "f" + grown;
        }
        String want = "g" + grown + "g" + grown + grown;
        due("200 nodes", want.length(), 200);
        for (int s = 0; s <= 1; s++) {
            due("200 nodes", Probe.with(text).grown(0, 0, s), want);
            due("the last", Probe.with(text).becomes(0, 0, s, 199), 'a');
            due("behind it", Probe.with(text).becomes(0, 0, s, 200), NOT_SO_MANY);
        }
    }

    @Cases.Says("-5: not so many. BAD, likewise; NO, likewise.")
    private static void promise14_becomes_badAndNo() {
        for (int far : new int[] {LEAST, -2}) {
            refuses("becomes i " + far, BAD, x -> x.becomes(far, 0, 0, 0));
            refuses("becomes e " + far, BAD, x -> x.becomes(0, far, 0, 0));
            refuses("becomes side " + far, BAD, x -> x.becomes(0, 0, far, 0));
            refuses("becomes k " + far, BAD, x -> x.becomes(0, 0, 0, far));
        }
        refuses("becomes i -1", BAD, x -> x.becomes(-1, 0, 0, 0));
        for (int e : new int[] {-1, 2, MOST}) {
            refuses("becomes e " + e, BAD, x -> x.becomes(0, e, 0, 0));
            refuses("becomes e " + e + ", not so many", BAD, x -> x.becomes(4, e, 0, 0));
            refuses("becomes side " + e, BAD, x -> x.becomes(0, 0, e, 0));
            refuses("becomes side " + e + ", not so many", BAD, x -> x.becomes(4, 0, e, 0));
        }
        refuses("becomes k -2, not so many", BAD, x -> x.becomes(4, 0, 0, -2));
        for (int i : new int[] {4, 5, 40, MOST}) {
            refuses("becomes i " + i, NO, x -> x.becomes(i, 0, 0, 0));
            refuses("becomes i " + i, NO, x -> x.becomes(i, 1, 1, NONE));
            refuses("becomes i " + i + ", letter not there", NO, x -> x.becomes(i, 1, 1, MOST));
        }
        answers("becomes by the last", 3, x -> x.becomes(3, 1, 1, NONE));
        Probe.refused("becomes, no solutions", NO, told("a=b;"), x -> x.becomes(0, 0, 0, 0));
        Probe.refused("becomes, equation 4", BAD, told(MANY[4]), x -> x.becomes(0, 4, 0, 0));
        due("becomes, equation 3", Probe.with(MANY[4]).becomes(0, 3, 1, NONE), 1);
    }

    // ---- 15

    @Cases.Says("How many BODIES of SIZE n (1 .. 6) there are for a FLEX letter. BAD.")
    private static void promise15_bodies_each() {
        // With l leaves of SIZE 1: count(n) = count(n - 1) + the sum of count(i) count(n - 1 - i).
        for (int letter = U; letter <= Z; letter++) {
            int[] count = new int[7];
            count[1] = 2 + letter % 3;
            for (int n = 2; n <= 6; n++) {
                count[n] = count[n - 1];
                for (int i = 1; i <= n - 2; i++) {
                    count[n] += count[i] * count[n - 1 - i];
                }
            }
            for (int n = 1; n <= 6; n++) {
                due("bodies " + letter + " " + n, new Probe().bodies(letter, n), count[n]);
            }
        }
        due("whatever the equations are", Probe.with("a=b;").bodies(W, 6), 804);
        due("whatever the equations are", Probe.with("Z(a,b)=U;").bodies(U, 6), 122);
    }

    @Cases.Says("How many BODIES of SIZE n (1 .. 6) there are for a FLEX letter. BAD.")
    private static void promise15_bodies_bad() {
        for (int letter : new int[] {LEAST, -1, 6, 7, MOST}) {
            refuses("bodies x " + letter, BAD, x -> x.bodies(letter, 1));
        }
        for (int n : new int[] {LEAST, -1, 0, 7, 8, MOST}) {
            for (int letter = U; letter <= Z; letter++) {
                int asked = letter;
                refuses("bodies n " + n, BAD, x -> x.bodies(asked, n));
            }
        }
        answers("the least", 2, x -> x.bodies(U, 1));
        answers("the most", 804, x -> x.bodies(Z, 6));
    }

    // ---- 16

    @Cases.Says("A STATE back: how many can be yet. NO: none.")
    private static void promise16_back_toNone() {
        Probe x = new Probe();
        made(x);
        due("states", x.told(7), 3);
        due("back", x.back(), 2);
        due("equations", x.equations(), "f(U)=f(b);g(a,b)=W(a,b);");
        due("back", x.back(), 1);
        due("equations", x.equations(), "W(a,b)=g(a,b);");
        due("back", x.back(), 0);
        due("equations", x.equations(), "");
        due("noes", x.told(1), 2);
        due("none", x.back(), NO);
        due("none", x.back(), NO);
        due("noes", x.told(1), 4);
        due("equations", x.equations(), "");
        due("states", x.told(7), 0);
    }

    @Cases.Says("NO: none.")
    private static void promise16_back_noneLeft() {
        Consumer<Probe> used = x -> {
            made(x);
            x.back();
            x.back();
            x.back();
        };
        Probe.refused("back, all used", NO, used, x -> x.back());
        Probe.refused("back, only a text", NO, x -> x.types("U=a;"), x -> x.back());
        Probe.refused("back, only a FAULT", NO, x -> x.tell("U=a"), x -> x.back());
        Consumer<Probe> six = x -> {
            x.tell("V(a)=U;");
            for (int n = 0; n < 5; n++) {
                x.turns(0);
            }
            for (int n = 0; n < 5; n++) {
                x.back();
            }
        };
        Probe.refused("back, the sixth is lost", NO, six, x -> x.back());
    }

    @Cases.Says("A STATE back: how many can be yet.")
    private static void promise16_back_goesOnFromThere() {
        Probe x = Probe.with("U=a;");
        x.tell("X=b;");
        x.tell("V(a)=a;");
        due("back", x.back(), 2);
        due("turns", x.turns(0), 1);
        due("states", x.told(7), 3);
        due("equations", x.equations(), "b=X;");
        due("back", x.back(), 2);
        due("equations", x.equations(), "X=b;");
        due("back", x.back(), 1);
        due("equations", x.equations(), "U=a;");
        for (int n = 1; n <= 6; n++) {
            x.turns(0);
            due("states", x.told(7), Math.min(1 + n, 5));
        }
    }

    // ---- 17

    @Cases.Says("How often refused: BAD (0), NO (1), FULL (2); bytes of THE TEXT (3), EQUATIONS (4), NODES in all (5), FLEX letters that stand in them (6, bits), STATES (7).")
    private static void promise17_told_each() {
        Probe x = new Probe();
        made(x);
        x.clear();
        x.types(" ".repeat(123));
        int[] want = {1, 2, 3, 120, 2, 10, 5, 3};
        for (int what = 0; what < 8; what++) {
            due("told " + what, x.told(what), want[what]);
        }
        Probe most = Probe.with("f(f(W(V(U),Y(X))))=" + nested("f", 9, "Z(a,a)") + ";" + nested("f", 9, "a") + "=f(f(f(f(f(f(a))))));a=b;a=U;");
        int[] mostWant = {0, 0, 0, 110, 4, 40, 63, 1};
        for (int what = 0; what < 8; what++) {
            due("told " + what + " of the most", most.told(what), mostWant[what]);
        }
    }

    @Cases.Says("FLEX letters that stand in them (6, bits), STATES (7). BAD.")
    private static void promise17_told_bad() {
        for (int what : new int[] {LEAST, -1, 8, 9, MOST}) {
            refuses("told " + what, BAD, x -> x.told(what));
        }
        Probe x = new Probe();
        due("told", x.told(8), BAD);
        due("it counts itself", x.told(0), 1);
        due("told", x.told(-1), BAD);
        due("it counts itself", x.told(0), 2);
    }

    // ---- 18

    private static long digestOf(int... values) {
        // In whole numbers of any length first, so that the wrap-around of long is told by another way.
        BigInteger h = BigInteger.valueOf(2473);
        for (int v : values) {
            h = h.multiply(BigInteger.valueOf(31)).add(BigInteger.valueOf(v));
        }
        return h.longValue();
    }

    @Cases.Says("h = 2473; then h = 31 h + v for each v: told(0) to told(7); EQUATION by EQUATION of LEFT, then of RIGHT of(0) to of(3); "
        + "pairs(0) to pairs(3); solutions(); SOLUTION by SOLUTION its SIZE, then of each FLEX letter that stands there the bytes of its BODY.")
    private static void promise18_digest_spelledOut() {
        due("no equations, text and counts", refusedOften().digest(), digestOf(3, 2, 1, 120, 0, 0, 0, 0, 0, 0, 0, 0, 1, 0));
        due("one letter", Probe.with("U=f(a);").digest(), digestOf(0, 0, 0, 7, 1, 3, 1, 1, 1, 1, 1, 'U', 2, 0, 2, 'f', 1, 0, 1, 0,
            1, 2, 'f', '(', 'a', ')'));
        due("no solutions", Probe.with("a=b; ").digest(), digestOf(0, 0, 0, 5, 1, 2, 0, 1, 1, 0, 1, 'a', 1, 0, 1, 'b', 1, 1, 0, 0, 0));
        due("no letters", Probe.with("b=b;").digest(), digestOf(0, 0, 0, 4, 1, 2, 0, 1, 1, 0, 1, 'b', 1, 0, 1, 'b', 0, 0, 0, 0, 1, 0));
        due("two letters, four solutions", Probe.with("V(a)=X;X=f(a);X=X;").digest(),
            digestOf(0, 0, 0, 18, 3, 8, 10, 1, 2, 2, 2, 'V', 1, 8, 1, 'X', 1, 8, 1, 'X', 2, 0, 2, 'f', 1, 8, 1, 'X', 1, 8, 1, 'X', 3, 0, 1, 2,
                2, 4, 'f', '(', '1', ')', 'f', '(', 'a', ')', 4, 'f', '(', 'a', ')', 'f', '(', 'a', ')'));
    }

    private static Probe refusedOften() {
        Probe x = new Probe();
        x.told(8);
        x.told(-1);
        x.type(128);
        x.back();
        x.size(1);
        x.types("a".repeat(121));
        return x;
    }

    @Cases.Says("SOLUTION by SOLUTION its SIZE, then of each FLEX letter that stands there the bytes of its BODY.")
    private static void promise18_digest_40Solutions() {
        for (String text : new String[] {"V(a)=Y(a);", "V(Y(U))=g(a,a);", "V(a)=g(U,Z(X,a));", "W(U,V(X))=Z(Y(a),b);"}) {
            due("digest of " + text, Probe.with(text).digest(), digestByQuestions(text));
        }
    }

    private static long digestByQuestions(String text) {
        Probe x = Probe.with(text);
        long h = 2473;
        for (int what = 0; what < 8; what++) {
            h = 31 * h + x.told(what);
        }
        for (int n = 0; n < 8 * x.told(4); n++) {
            h = 31 * h + x.of(n / 8, n / 4 % 2, n % 4);
        }
        for (int what = 0; what < 4; what++) {
            h = 31 * h + x.pairs(what);
        }
        int many = x.solutions();
        h = 31 * h + many;
        for (int i = 0; i < many; i++) {
            Probe one = Probe.with(text);
            h = 31 * h + one.size(i);
            for (int letter = U; letter <= Z; letter++) {
                for (char c : one.bodyText(i, letter).toCharArray()) {
                    h = 31 * h + c;
                }
            }
        }
        return h;
    }

    @Cases.Says("h = 31 h + v for each v: told(0) to told(7)")
    private static void promise18_digest_changesNothing() {
        Probe x = new Probe();
        Probe twin = new Probe();
        made(x);
        made(twin);
        long before = x.digest();
        due("asked again", x.digest(), before);
        for (int what = 0; what < 3; what++) {
            due("counts", x.told(what), twin.told(what));
        }
        due("all there is", x.everything(), twin.everything());
        Probe y = Probe.with("U=a;");
        due("by a refusal", y.digest() == Probe.with("U=a;").digest() ? 1 : 0, 1);
        y.told(8);
        due("by a refusal", y.digest() == Probe.with("U=a;").digest() ? 1 : 0, 0);
    }
}
