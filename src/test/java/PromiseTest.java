/** Each promise of the document by itself: ordinary inputs, the edges that it names, wrong inputs. */
public final class PromiseTest {
    private static final int NONE = FlexTerms.NONE, BAD = FlexTerms.BAD, NO = FlexTerms.NO, FULL = FlexTerms.FULL;
    private static final int U = 0, V = 1, W = 2, X = 3, Y = 4, Z = 5;
    private static final int[] FAR = {Integer.MIN_VALUE, Integer.MIN_VALUE + 1, Integer.MAX_VALUE - 1, Integer.MAX_VALUE};

    public static void main(String[] args) throws IllegalAccessException {
        Cases.run(PromiseTest.class);
    }

    private static void due(String call, long got, long want) {
        Cases.due(call, got, want);
    }

    private static void due(String call, String got, String want) {
        Cases.due(call, got, want);
    }

    private static Probe with(String text) {
        return Probe.with(text);
    }

    private static String nested(String letter, int high, String inside) {
        return (letter + "(").repeat(high) + inside + ")".repeat(high);
    }

    @Cases.Says("Promise 1: A new object")
    private static void newObject() {
        Probe x = new Probe();
        for (int what = 0; what < 8; what++) {
            due("told " + what, x.told(what), 0);
        }
        due("pairs", x.pairs(0), 0);
        due("solutions", x.solutions(), 1);
        due("back", x.back(), NO);
        Probe y = new Probe();
        y.type('a');
        due("another object's text", x.told(3), 0);
    }

    @Cases.Says("Promise 2: type")
    private static void type() {
        Probe x = new Probe();
        due("below", x.type(-1), BAD);
        due("above", x.type(128), BAD);
        due("least", x.type(0), 1);
        due("most", x.type(127), 2);
        for (int i = 3; i <= 120; i++) {
            due("type", x.type('a'), i);
        }
        due("full", x.type('a'), FULL);
        due("bad comes first", x.type(200), BAD);
        due("text", x.told(3), 120);
        due("bads", x.told(0), 3);
        due("fulls", x.told(2), 1);
        due("leaves no state", x.told(7), 0);
    }

    @Cases.Says("Promise 3: clear")
    private static void clear() {
        Probe x = with("U=a;");
        due("clear", x.clear(), 4);
        due("again", x.clear(), 0);
        due("text", x.told(3), 0);
        due("equations stay", x.equations(), "U=a;");
        due("leaves no state", x.told(7), 1);
        due("from the start", x.type('b'), 1);
    }

    @Cases.Says("Promise 4: reads")
    private static void reads() {
        Probe x = new Probe();
        due("one", x.tell(" W ( a , f ( U ) ) = Z ( b , X ) ; "), 1);
        due("shown", x.equations(), "W(a,f(U))=Z(b,X);");
        due("the text stays", x.told(3), 35);
        due("state", x.told(7), 1);
        due("once more", x.reads(), 1);
        due("state by the same", x.told(7), 2);
        Probe again = with("U=a;");
        due("solutions", again.solutions(), 1);
        due("other equations", again.tell("V(a)=a;"), 1);
        due("other solutions", again.solutions(), 2);
        due("four", x.tell("a=b;U=X;V(a)=Y(b);W(a,b)=Z(a,b);"), 4);
        due("shown", x.equations(), "a=b;U=X;V(a)=Y(b);W(a,b)=Z(a,b);");
        due("none", x.tell(""), 0);
        due("blanks", x.tell("   "), 0);
        due("states", x.told(7), 5);
        due("40 nodes", x.tell(nested("f", 38, "a") + "=a;"), 1);
        due("nodes", x.told(5), 40);
        due("40 nodes, written short", x.tell("g(" + wide(8) + "," + wide(8) + ")=" + wide(4) + ";"), 1);
        due("nodes", x.told(5), 31 + 7);
        due("one more leaves 40", x.tell("g(" + wide(8) + "," + wide(8) + ")=f(f(" + wide(4) + "));"), 1);
        due("nodes", x.told(5), 40);
        due("nothing counts", x.told(0) + x.told(1) + x.told(2), 0);
    }

    /** A TERM of g and a with so many leaves. */
    private static String wide(int leaves) {
        return leaves == 1 ? "a" : "g(" + wide(leaves / 2) + "," + wide(leaves - leaves / 2) + ")";
    }

    @Cases.Says("Promise 4: reads")
    private static void readsFaults() {
        Probe x = with("U=a;");
        String[] texts = {"a", "a=", "a=a", "a=a ", "=a;", "a;", "a==a;", "a=a;;", "f", "f(", "f(a", "f(a)", "f(a,a)=a;",
            "g(a)=a;", "g(a,a,a)=a;", "a(a)=a;", "U(a)=a;", "X(a)=a;", "V=a;", "W(a)=a;", "c=a;", "A=a;", "T=a;", "1=a;",
            "a=[;", "V(1)=a;", "a=a;b", "a=a;a=a;a=a;a=a; a", "a=a;a=a;a=a;a=a;;", "a=a;\t", " \u0000", "f()=a;", "g(,a)=a;", "(a)=a;"};
        int[] faults = {1, 2, 3, 4, 0, 1, 2, 4, 1, 2, 3, 4, 3,
            3, 5, 1, 1, 1, 1, 3, 0, 0, 0, 0,
            2, 2, 5, 17, 16, 4, 1, 2, 2, 0};
        for (int i = 0; i < texts.length; i++) {
            due(texts[i], x.tell(texts[i]), -10 - faults[i]);
        }
        due("equations stay", x.equations(), "U=a;");
        due("no state", x.told(7), 1);
        due("nothing counts", x.told(0) + x.told(1) + x.told(2), 0);
    }

    @Cases.Says("Promise 4: reads")
    private static void readsTooMuch() {
        Probe x = with("U=a;");
        String wide = "g(" + wide(8) + "," + wide(8) + ")=f(f(f(" + wide(4) + ")));";
        due("41 nodes", x.tell(wide), -10 - wide.lastIndexOf('a'));
        String four = "a=a;a=a;a=a;";
        String fourth = four + "f(" + wide(8) + ")=f(" + wide(8) + ");";
        due("38 nodes in four", with(fourth).reads(), 4);
        String over = four + "f(f(" + wide(8) + "))=f(f(f(" + wide(8) + ")));";
        due("41 nodes in four", x.tell(over), -10 - over.lastIndexOf('a'));
        due("41st of many", new Probe().tell("f(".repeat(60)), -10 - 80);
        due("a full text that ends too early", x.tell(" ".repeat(119) + "a"), -130);
        due("equations stay", x.equations(), "U=a;");
        due("no state", x.told(7), 1);
        due("nothing counts", x.told(0) + x.told(1) + x.told(2), 0);
    }

    @Cases.Says("Promise 5: drops")
    private static void drops() {
        Probe x = with("a=b;U=f(a);V(a)=g(a,b);");
        due("below", x.drops(-1), BAD);
        due("above", x.drops(3), BAD);
        due("no state by a refusal", x.told(7), 1);
        due("middle", x.drops(1), 2);
        due("shown", x.equations(), "a=b;V(a)=g(a,b);");
        due("nodes", x.told(5), 7);
        due("flex", x.told(6), 2);
        due("first", x.drops(0), 1);
        due("shown", x.equations(), "V(a)=g(a,b);");
        due("solutions", x.solutions(), 2);
        due("last", x.drops(0), 0);
        due("states", x.told(7), 4);
        due("none left", x.drops(0), BAD);
        due("bads", x.told(0), 3);
        due("solutions", x.solutions(), 1);
    }

    @Cases.Says("Promise 6: turns")
    private static void turns() {
        Probe x = with("a=b;V(a)=g(a,b);U=X;");
        due("below", x.turns(-1), BAD);
        due("above", x.turns(3), BAD);
        due("turns", x.turns(1), 3);
        due("shown", x.equations(), "a=b;g(a,b)=V(a);U=X;");
        due("state", x.told(7), 2);
        due("again", x.turns(1), 2);
        due("shown", x.equations(), "a=b;V(a)=g(a,b);U=X;");
        due("like sides", x.turns(2), 1);
        due("shown", x.equations(), "a=b;V(a)=g(a,b);X=U;");
        due("states", x.told(7), 4);
        due("bads", x.told(0), 2);
        Probe y = with("V(a)=g(a,b);");
        due("solutions", y.solutions(), 2);
        y.turns(0);
        due("solutions", y.solutions(), 2);
        due("becomes", y.becomes(0, 0, 1, NONE), 3);
        due("pair", y.pair(0, 0), 'g');
    }

    @Cases.Says("Promise 7: of")
    private static void of() {
        Probe x = with("g(f(f(U)),W(Z(a,X),b))=a;V(f(Y(b)))=f(V(a));");
        int[] wanted = {9, 1 | 4 | 8 | 32, 4, 'g', 1, 0, 1, 'a', 4, 2 | 16, 4, 'V', 3, 2, 3, 'f'};
        for (int n = 0; n < wanted.length; n++) {
            due("of " + n, x.of(n / 8, n / 4 % 2, n % 4), wanted[n]);
        }
        due("equation", x.of(2, 0, 0), BAD);
        due("equation", x.of(-1, 0, 0), BAD);
        due("side", x.of(0, 2, 0), BAD);
        due("side", x.of(0, -1, 0), BAD);
        due("what", x.of(0, 0, 4), BAD);
        due("what", x.of(0, 0, -1), BAD);
        due("bads", x.told(0), 6);
        due("deep", with(nested("f", 36, "a") + "=b;").of(0, 0, 2), 37);
    }

    @Cases.Says("Promise 8: shown")
    private static void shown() {
        Probe x = with(" g ( a , f ( U ) ) = Z ( W ( a , b ) , V ( X ) ) ; b = a ;");
        due("shown", x.equations(), "g(a,f(U))=Z(W(a,b),V(X));b=a;");
        due("how many", x.shown(0, NONE), 24);
        due("the last", x.shown(0, 23), ')');
        due("behind it", x.shown(0, 24), -5);
        due("second", x.shown(1, 1), '=');
        due("k", x.shown(0, -2), BAD);
        due("equation", x.shown(2, 0), BAD);
        due("equation", x.shown(-1, NONE), BAD);
        due("bads", x.told(0), 3);
        String longest = nested("f", 36, "a") + "=f(a)";
        due("a long one", with(longest + ";").equations(), longest + ";");
        due("its length", with(longest + ";").shown(0, NONE), longest.length());
    }

    @Cases.Says("Promise 9: pairs")
    private static void pairs() {
        Probe x = with("g(f(a),g(U,V(a)))=g(f(b),g(f(a),Y(b)));f(a)=g(a,a);a=a;");
        int[] wanted = {4, 2, 1, 1};
        for (int what = 0; what < 4; what++) {
            due("pairs " + what, x.pairs(what), wanted[what]);
        }
        due("below", x.pairs(-1), BAD);
        due("above", x.pairs(4), BAD);
        due("bads", x.told(0), 2);
        due("FLEX ones are not taken apart", with("V(a)=V(a);").pairs(3), 1);
        String u = wide(8).replace('a', 'U');
        due("many", with(u + "=" + u + ";U=U;").pairs(3), 9);
    }

    @Cases.Says("Promise 10: pair")
    private static void pair() {
        Probe x = with("g(f(a),g(U,V(a)))=g(f(b),g(f(a),Y(b)));f(W(a,b))=a;g(b,b)=Z(a,a);f(a)=f(Y(b));");
        int[][] wanted = {{'a', 'b', 1, 1, 1, 0}, {'U', 'f', 1, 2, 2, 1}, {'V', 'Y', 2, 2, 3, 0},
            {'f', 'a', 4, 1, 1, 0}, {'g', 'Z', 3, 3, 2, 3}, {'a', 'Y', 1, 2, 2, 2}};
        for (int i = 0; i < wanted.length; i++) {
            for (int what = 0; what < 6; what++) {
                due("pair " + i + " " + what, x.pair(i, what), wanted[i][what]);
            }
        }
        due("not so many", x.pair(6, 0), -5);
        due("i", x.pair(-1, 0), BAD);
        due("what", x.pair(0, -1), BAD);
        due("what", x.pair(0, 6), BAD);
        due("what, not so many", x.pair(6, 6), BAD);
        due("bads", x.told(0), 4);
        due("-5 is no refusal", x.told(1), 0);
    }

    @Cases.Says("Promise 11: solutions")
    private static void solutions() {
        String[] texts = {"", "a=a;", "a=b;", "U=a;", "U=f(U);", "U=f(X);", "V(a)=a;", "V(a)=V(b);", "V(a)=b;V(b)=a;",
            "W(a,b)=Z(b,a);", "U=f(f(f(f(f(a)))));", "U=f(f(f(f(f(f(a))))));", "U=a;U=b;", "g(U,U)=g(a,X);", "f(U)=g(U,U);"};
        int[] wanted = {1, 1, 0, 1, 0, 4, 2, 40, 0, 40, 1, 0, 0, 1, 0};
        for (int i = 0; i < texts.length; i++) {
            due(texts[i], with(texts[i]).solutions(), wanted[i]);
        }
        due("six letters", with("W(V(U),X)=Z(Y(X),U);").solutions(), 40);
        due("SIZE 6", with("W(a,b)=a;V(b)=b;Y(a)=a;Z(b,a)=f(U);").solutions(), 32);
        due("SIZE 7", with("W(a,b)=a;V(b)=b;Y(a)=a;Z(b,a)=f(f(U));").solutions(), 0);
    }

    @Cases.Says("Promise 11: solutions")
    private static void solutionsOrder() {
        Probe x = with("W(a,b)=g(a,b);");
        String[] wanted = {"g(1,2)", "g(1,b)", "g(a,2)", "g(a,b)"};
        due("many", x.solutions(), wanted.length);
        for (int i = 0; i < wanted.length; i++) {
            due("body " + i, x.bodyText(i, W), wanted[i]);
        }
        Probe y = with("V(Y(a))=f(f(a));");
        String[] pairs = {"1 f(f(1))", "1 f(f(a))", "f(1) f(1)", "f(1) f(a)", "f(f(1)) 1", "f(f(1)) a", "f(f(a)) 1", "f(f(a)) a",
            "f(f(a)) b", "f(f(a)) f(1)"};
        for (int i = 0; i < pairs.length; i++) {
            due("bodies " + i, y.bodyText(i, V) + " " + y.bodyText(i, Y), pairs[i]);
        }
        for (int i = 1; i < y.solutions(); i++) {
            due("sizes rise", y.size(i) >= y.size(i - 1) ? 1 : 0, 1);
        }
    }

    @Cases.Says("Promise 11: solutions")
    private static void solutionsLimit() {
        // By V = g(1,f(1)) the six letters V become 190 nodes; the letters f around them count, too.
        Probe fits = with(alike(nested("f", 10, nested("V", 6, "a"))));
        int i = indexOf(fits, V, "g(1,f(1))");
        due("200 nodes", i >= 0 ? 1 : 0, 1);
        due("200 nodes", fits.becomes(i, 0, 0, NONE), 200);
        due("the last", fits.becomes(i, 0, 1, 199), 'a');
        due("behind it", fits.becomes(i, 0, 1, 200), -5);
        due("201 nodes", indexOf(with(alike(nested("f", 11, nested("V", 6, "a")))), V, "g(1,f(1))"), -1);
        // By V = g(1,1) six letters become 127 nodes: few enough alone, too many twice in one side.
        String six = nested("V", 6, "a");
        due("127 nodes", indexOf(with(alike(six)), V, "g(1,1)") >= 0 ? 1 : 0, 1);
        due("255 nodes", indexOf(with(alike("g(" + six + "," + six + ")")), V, "g(1,1)"), -1);
        // A part that becomes 511 nodes, but stands nowhere in what the side becomes.
        Probe dropped = with("Y(" + nested("V", 8, "a") + ")=b;V(a)=g(a,a);V(b)=g(b,b);");
        due("a large part that is left out", dropped.solutions(), 1);
        due("V", dropped.bodyText(0, V), "g(1,1)");
        due("Y", dropped.bodyText(0, Y), "b");
        due("becomes", dropped.grown(0, 0, 0), "b");
    }

    private static String alike(String side) {
        return side + "=" + side + ";";
    }

    private static int indexOf(Probe x, int letter, String body) {
        for (int i = 0; i < x.solutions(); i++) {
            if (x.bodyText(i, letter).equals(body)) {
                return i;
            }
        }
        return -1;
    }

    @Cases.Says("Promise 12: size")
    private static void size() {
        Probe x = with("U=f(X);");
        int[] wanted = {3, 3, 5, 5};
        for (int i = 0; i < wanted.length; i++) {
            due("size " + i, x.size(i), wanted[i]);
        }
        due("below", x.size(-1), BAD);
        due("not so many", x.size(x.solutions()), NO);
        due("bads", x.told(0), 1);
        due("noes", x.told(1), 1);
        due("no letters", with("a=a;").size(0), 0);
        due("no solutions", with("a=b;").size(0), NO);
        Probe many = with("U=U;");
        due("forty", many.solutions(), 40);
        due("the 40th", many.size(39), 5);
        due("the 41st", many.size(40), NO);
    }

    @Cases.Says("Promise 13: body")
    private static void body() {
        Probe x = with("W(a,b)=g(f(a),b);Y(a)=b;");
        due("size", x.body(0, W, NONE), 4);
        due("body", x.bodyText(0, W), "g(f(1),2)");
        due("behind it", x.body(0, W, 9), -5);
        due("one letter", x.bodyText(0, Y), "b");
        due("its size", x.body(0, Y, NONE), 1);
        due("behind it", x.body(0, Y, 1), -5);
        due("does not stand there", x.body(0, U, NONE), -5);
        due("does not stand there", x.body(0, Z, 0), -5);
        due("x", x.body(0, -1, 0), BAD);
        due("x", x.body(0, 6, 0), BAD);
        due("i", x.body(-1, 0, 0), BAD);
        due("k", x.body(0, 0, -2), BAD);
        due("bad comes first", x.body(1000, 6, 0), BAD);
        due("not so many", x.body(x.solutions(), U, 0), NO);
        due("bads", x.told(0), 5);
        due("noes", x.told(1), 1);
        due("longest", with("U=f(f(f(f(f(b)))));").bodyText(0, U), "f(f(f(f(f(b)))))");
        due("X", with("X=g(a,g(b,a));").bodyText(0, X), "g(a,g(b,a))");
    }

    @Cases.Says("Promise 14: becomes")
    private static void becomes() {
        Probe x = with("W(f(a),b)=g(b,f(a));f(U)=f(b);");
        due("body", x.bodyText(0, W), "g(2,1)");
        due("left", x.grown(0, 0, 0), "gbfa");
        due("right", x.grown(0, 0, 1), "gbfa");
        due("other", x.grown(0, 1, 0), "fb");
        due("nodes", x.becomes(0, 0, 0, NONE), 4);
        due("the last", x.becomes(0, 0, 0, 3), 'a');
        due("behind it", x.becomes(0, 0, 0, 4), -5);
        due("i", x.becomes(-1, 0, 0, 0), BAD);
        due("equation", x.becomes(0, 2, 0, 0), BAD);
        due("equation", x.becomes(0, -1, 0, 0), BAD);
        due("side", x.becomes(0, 0, 2, 0), BAD);
        due("side", x.becomes(0, 0, -1, 0), BAD);
        due("k", x.becomes(0, 0, 0, -2), BAD);
        due("bad comes first", x.becomes(1000, 2, 0, 0), BAD);
        due("not so many", x.becomes(x.solutions(), 0, 0, 0), NO);
        due("bads", x.told(0), 7);
        due("noes", x.told(1), 1);
        due("letters in letters", with("V(V(V(a)))=f(f(f(a)));V(b)=f(b);").grown(0, 0, 0), "fffa");
    }

    @Cases.Says("Promise 15: bodies")
    private static void bodies() {
        Probe x = new Probe();
        int[][] wanted = {{2, 2, 6, 14, 42, 122}, {3, 3, 12, 30, 111, 363}, {4, 4, 20, 52, 228, 804}};
        for (int letter = U; letter <= Z; letter++) {
            for (int n = 1; n <= 6; n++) {
                due("bodies " + letter + " " + n, x.bodies(letter, n), wanted[letter % 3][n - 1]);
            }
        }
        due("x", x.bodies(-1, 1), BAD);
        due("x", x.bodies(6, 1), BAD);
        due("n", x.bodies(0, 0), BAD);
        due("n", x.bodies(0, 7), BAD);
        due("bads", x.told(0), 4);
    }

    @Cases.Says("Promise 16: back")
    private static void back() {
        Probe x = with("U=a;V(a)=b;");
        x.turns(0);
        x.drops(1);
        due("solutions", x.solutions(), 1);
        due("back", x.back(), 2);
        due("shown", x.equations(), "a=U;V(a)=b;");
        due("solutions", x.solutions(), 1);
        due("back", x.back(), 1);
        due("shown", x.equations(), "U=a;V(a)=b;");
        due("back", x.back(), 0);
        due("shown", x.equations(), "");
        due("none", x.back(), NO);
        due("noes", x.told(1), 1);
        due("the text stays", x.told(3), 11);
        for (int i = 0; i < 7; i++) {
            x.tell(nested("f", i, "a") + "=U;");
        }
        due("five at most", x.told(7), 5);
        due("solutions", x.solutions(), 0);
        for (int i = 5; i >= 1; i--) {
            due("back", x.back(), i - 1);
            due("shown", x.equations(), nested("f", i, "a") + "=U;");
            due("solutions", x.solutions(), 1);
        }
        due("older ones are lost", x.back(), NO);
        due("shown", x.equations(), "f(a)=U;");
        x.turns(0);
        due("a new one", x.back(), 0);
    }

    @Cases.Says("Promise 17: told")
    private static void told() {
        Probe x = with("U=Z(a,b);Y(X)=f(a);");
        x.back();
        x.back();
        x.reads();
        int[] wanted = {0, 1, 0, 19, 2, 8, 1 | 8 | 16 | 32, 1};
        for (int what = 0; what < 8; what++) {
            due("told " + what, x.told(what), wanted[what]);
        }
        due("below", x.told(-1), BAD);
        due("above", x.told(8), BAD);
        due("bads", x.told(0), 2);
    }

    @Cases.Says("Promise 18: digest")
    private static void digest() {
        Probe x = with("V(f(U))=f(f(b));X=f(f(a));");
        x.pairs(9);
        x.size(400);
        due("digest", x.digest(), toldDigest(x));
        due("asked again", x.digest(), x.digest());
        due("no equations", new Probe().digest(), toldDigest(new Probe()));
        long before = x.digest();
        x.told(8);
        due("a refusal changes it", x.digest() == before ? 1 : 0, 0);
        due("no solutions", with("a=b;").digest(), toldDigest(with("a=b;")));
        due("more solutions", with("V(a)=g(a,a);").digest(), toldDigest(with("V(a)=g(a,a);")));
    }

    private static long toldDigest(Probe x) {
        long h = 2473;
        for (int what = 0; what < 8; what++) {
            h = 31 * h + x.told(what);
        }
        for (int n = 0; n < 8 * x.told(4); n++) {
            h = 31 * h + x.of(n / 8, n / 4 % 2, n % 4);
        }
        for (int what = 0; what < 4; what++) {
            h = 31 * h + x.pairs(what);
        }
        h = 31 * h + x.solutions();
        for (int i = 0; i < x.solutions(); i++) {
            h = 31 * h + x.size(i);
            for (int letter = U; letter <= Z; letter++) {
                for (char c : x.bodyText(i, letter).toCharArray()) {
                    h = 31 * h + c;
                }
            }
        }
        return h;
    }

    @Cases.Says("BAD -2 a number is not as told")
    private static void farNumbers() {
        Probe x = with("V(a)=g(a,a);U=b;");
        for (int far : FAR) {
            int high = far > 0 ? -5 : BAD;
            due("type", x.type(far), BAD);
            due("drops", x.drops(far), BAD);
            due("turns", x.turns(far), BAD);
            due("of", x.of(far, 0, 0), BAD);
            due("of", x.of(0, far, 0), BAD);
            due("of", x.of(0, 0, far), BAD);
            due("shown", x.shown(far, 0), BAD);
            due("shown", x.shown(0, far), high);
            due("pairs", x.pairs(far), BAD);
            due("pair", x.pair(far, 0), high);
            due("pair", x.pair(0, far), BAD);
            due("size", x.size(far), far > 0 ? NO : BAD);
            due("body", x.body(far, 0, 0), far > 0 ? NO : BAD);
            due("body", x.body(0, far, 0), BAD);
            due("body", x.body(0, 0, far), high);
            due("becomes", x.becomes(far, 0, 0, 0), far > 0 ? NO : BAD);
            due("becomes", x.becomes(0, far, 0, 0), BAD);
            due("becomes", x.becomes(0, 0, far, 0), BAD);
            due("becomes", x.becomes(0, 0, 0, far), high);
            due("bodies", x.bodies(far, 1), BAD);
            due("bodies", x.bodies(0, far), BAD);
            due("told", x.told(far), BAD);
        }
    }
}
