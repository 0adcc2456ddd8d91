import java.util.ArrayList;
import java.util.List;

/**
 * The boundaries that the document names ahead of its promises: in 'What it is', 'The public face' and
 * 'Terms'. A case for each sentence: just below the boundary, at it, just above it.
 */
public final class BoundaryTermsTest {
    private static final int NONE = Probe.NONE, BAD = Probe.BAD, NO = Probe.NO, FULL = Probe.FULL, NOT_SO_MANY = Probe.NOT_SO_MANY;
    private static final int U = Probe.U, V = Probe.V, W = Probe.W, X = Probe.X, Y = Probe.Y, Z = Probe.Z;
    private static final String LETTERS = "abfgUVWXYZ";
    private static final int[] PARTS = {0, 0, 1, 2, 0, 1, 2, 0, 1, 2};

    public static void main(String[] args) throws IllegalAccessException {
        Cases.run(BoundaryTermsTest.class);
    }

    private static void due(String call, long got, long want) {
        Cases.due(call, got, want);
    }

    private static void due(String call, String got, String want) {
        Cases.due(call, got, want);
    }

    private static void dueReads(String text, int want) {
        Probe x = new Probe();
        due("reads of " + text, x.tell(text), want);
        due("told(4) for " + text, x.told(4), Math.max(want, 0));
    }

    private static void dueFault(String text, int place) {
        dueReads(text, -10 - place);
    }

    private static String nested(String letter, int high, String inside) {
        return (letter + "(").repeat(high) + inside + ")".repeat(high);
    }

    private static String alike(String side) {
        return side + "=" + side + ";";
    }

    /** A TERM of g with so many leaves. */
    private static String wide(int leaves, String leaf) {
        return leaves == 1 ? leaf : "g(" + wide(leaves / 2, leaf) + "," + wide(leaves - leaves / 2, leaf) + ")";
    }

    /** All SOLUTIONS; a new object for each, as an object is used for 512 calls only. */
    private static List<String> solved(String text) {
        List<String> all = new ArrayList<>();
        int many = Probe.with(text).solutions();
        for (int i = 0; i < many; i++) {
            all.add(Probe.with(text).solution(i));
        }
        return all;
    }

    private static void dueSolved(String text, String... want) {
        due("solutions of " + text, solved(text).toString(), List.of(want).toString());
    }

    // ---- What it is, the public face

    @Cases.Says("An object is used for at most 512 calls after it has been made")
    private static void whatItIs_512Calls() {
        Probe x = Probe.with("U=f(a);V(a)=a;");
        while (x.calls() < 510) {
            due("call " + (x.calls() + 1), x.told(8), BAD);
        }
        due("the 511th call", x.solutions(), 2);
        due("the 512th call", x.told(0), 510 - 16);
        Probe typed = new Probe();
        for (int n = 1; n < 512; n++) {
            due("call " + n, typed.type('a'), n <= 120 ? n : FULL);
        }
        due("the 512th call", typed.told(2), 511 - 120);
    }

    @Cases.Says("public static final int NONE = -1, BAD = -2, NO = -3, FULL = -4;")
    private static void face_constants() {
        due("NONE", FlexTerms.NONE, -1);
        due("BAD", FlexTerms.BAD, -2);
        due("NO", FlexTerms.NO, -3);
        due("FULL", FlexTerms.FULL, -4);
    }

    // ---- Terms

    @Cases.Says("a or b; f ( TERM ); g ( TERM , TERM ); U or X; V ( TERM ) or Y ( TERM ); W ( TERM , TERM ) or Z ( TERM , TERM ).")
    private static void term_partsOfEachLetter() {
        String[] behind = {"", "(a)", "(a,a)", "(a,a,a)"};
        for (int n = 0; n < LETTERS.length(); n++) {
            String letter = LETTERS.substring(n, n + 1);
            for (int parts = 0; parts < behind.length; parts++) {
                // The fault of too few parts is where the next one is due, of too many where they should end.
                int place = PARTS[n] == 0 || parts == 0 ? 1 : 1 + 2 * Math.min(parts, PARTS[n]);
                dueReads(letter + behind[parts] + "=a;", parts == PARTS[n] ? 1 : -10 - place);
                dueReads("a=" + letter + behind[parts] + ";", parts == PARTS[n] ? 1 : -10 - place - 2);
            }
        }
    }

    @Cases.Says("U to Z (0 .. 5) are FLEX.")
    private static void terms_flexAreUToZ() {
        for (int n = 0; n < LETTERS.length(); n++) {
            char letter = LETTERS.charAt(n);
            String term = letter + new String[] {"", "(a)", "(a,a)"}[PARTS[n]];
            int bits = letter >= 'U' && letter <= 'Z' ? 1 << letter - 'U' : 0;
            due("of " + term, Probe.with(term + "=b;").of(0, 0, 1), bits);
            due("told of " + term, Probe.with(term + "=b;").told(6), bits);
        }
        dueFault("T=a;", 0);
        dueFault("[=a;", 0);
    }

    @Cases.Says("NODES of a TERM: its letters, each as often as it stands there, as it is written from the left.")
    private static void terms_nodesAreLettersEachAsOften() {
        Probe x = Probe.with("W(U,g(U,U))=f(f(f(a)));");
        due("of", x.of(0, 0, 0), 5);
        due("of", x.of(0, 1, 0), 4);
        due("told", x.told(5), 9);
        due("the first letter", x.of(0, 0, 3), 'W');
    }

    @Cases.Says("EQUATIONS 0 .. 3: a LEFT and a RIGHT TERM each")
    private static void terms_fourEquationsAtMost() {
        for (int many = 0; many <= 4; many++) {
            dueReads("a=U;".repeat(many), many);
        }
        dueFault("a=U;".repeat(5), 16);
        Probe x = Probe.with("a=U;a=f(U);b=U;b=f(U);");
        due("equation 3", x.shown(3, NONE), 6);
        due("equation 4", x.shown(4, NONE), BAD);
        due("equations stay", x.tell("a=a;a=a;a=a;a=a;a=a;"), -26);
        due("equations stay", x.equations(), "a=U;a=f(U);b=U;b=f(U);");
    }

    @Cases.Says("40 NODES at most in all.")
    private static void terms_40NodesAtMost() {
        for (int high = 37; high <= 38; high++) {
            Probe x = Probe.with(nested("f", high, "a") + "=a;");
            due("nodes", x.told(5), high + 2);
            due("nodes of the side", x.of(0, 0, 0), high + 1);
            Probe y = Probe.with("a=" + nested("f", high, "a") + ";");
            due("nodes", y.told(5), high + 2);
            due("nodes of the side", y.of(0, 1, 0), high + 1);
        }
        dueFault(nested("f", 39, "a") + "=a", 119);
        dueFault("a=" + nested("f", 39, "a"), 80);
        String eight = wide(8, "a");
        String[] sides = {"f(a)", "f(f(a))", "f(f(f(a)))"};
        for (int n = 0; n < 3; n++) {
            // 36 NODES in the first three, and 3, 4, 5 in the fourth.
            String text = "a=b;U=f(f(X));" + eight + "=" + eight + ";a=" + sides[n] + ";";
            int nodes = 36 + 3 + n;
            dueReads(text, nodes <= 40 ? 4 : -10 - text.lastIndexOf('a'));
            due("nodes in four", nodes <= 40 ? Probe.with(text).told(5) : 41, nodes);
        }
    }

    // ---- bodies

    @Cases.Says("A BODY for a FLEX letter: as a TERM made of a, b, f, g and of 1 (for V, W, Y, Z), 2 (for W, Z) in place of TERMS; no FLEX letters.")
    private static void body_figuresForEachLetter() {
        String[] texts = {"U=U;", "V(a)=V(a);", "W(a,a)=W(a,a);", "X=X;", "Y(a)=Y(a);", "Z(a,a)=Z(a,a);"};
        String[] ones = {"U=a, U=b, U=f(a), U=f(b)", "V=1, V=a, V=b, V=f(1), V=f(a), V=f(b)",
            "W=1, W=2, W=a, W=b, W=f(1), W=f(2), W=f(a), W=f(b)", "X=a, X=b, X=f(a), X=f(b)",
            "Y=1, Y=a, Y=b, Y=f(1), Y=f(a), Y=f(b)", "Z=1, Z=2, Z=a, Z=b, Z=f(1), Z=f(2), Z=f(a), Z=f(b)"};
        for (int x = U; x <= Z; x++) {
            List<String> all = solved(texts[x]);
            String[] first = ones[x].split(", ");
            due("the first of " + texts[x], all.subList(0, first.length).toString(), List.of(first).toString());
            for (String body : all) {
                due("a strange letter in " + body, body.substring(2).matches("[" + "12".substring(0, x % 3) + "abfg(),]*") ? 1 : 0, 1);
            }
        }
    }

    @Cases.Says("Its SIZE: its letters and figures. It is written without blanks: g(f(1),b).")
    private static void body_sizeAndWriting() {
        Probe x = Probe.with("V(a)=g(f(a),b);");
        due("solution", x.solution(0), "V=g(f(1),b)");
        due("its SIZE", x.body(0, V, NONE), 4);
        due("a letter", Probe.with("U=a;").body(0, U, NONE), 1);
        due("a figure", Probe.with("V(a)=a;").body(0, V, NONE), 1);
        due("the largest", Probe.with("U=g(a,g(f(a),b));").body(0, U, NONE), 6);
        due("the largest", Probe.with("U=g(a,g(f(a),b));").bodyText(0, U), "g(a,g(f(a),b))");
    }

    @Cases.Says("Of two BODIES that with the lesser SIZE is ahead; of like ones that whose writing has the lesser byte where they first differ.")
    private static void body_order() {
        String[] want = {"1", "a", "b", "f(1)", "f(a)", "f(b)", "f(f(1))", "f(f(a))", "f(f(b))", "g(1,1)", "g(1,a)", "g(1,b)",
            "g(a,1)", "g(a,a)", "g(a,b)", "g(b,1)", "g(b,a)", "g(b,b)", "f(f(f(1)))", "f(f(f(a)))", "f(f(f(b)))",
            "f(g(1,1))", "f(g(1,a))", "f(g(1,b))", "f(g(a,1))", "f(g(a,a))", "f(g(a,b))", "f(g(b,1))", "f(g(b,a))", "f(g(b,b))",
            "g(1,f(1))", "g(1,f(a))", "g(1,f(b))", "g(a,f(1))", "g(a,f(a))", "g(a,f(b))", "g(b,f(1))", "g(b,f(a))", "g(b,f(b))",
            "g(f(1),1)"};
        List<String> all = solved("V(U)=V(U);V(a)=V(a);U=a;");
        due("many", all.size(), want.length);
        for (int i = 0; i < Math.min(all.size(), want.length); i++) {
            due("body " + i, all.get(i), "U=a V=" + want[i]);
        }
        dueSolved("W(a,a)=g(a,a);", "W=g(1,1)", "W=g(1,2)", "W=g(1,a)", "W=g(2,1)", "W=g(2,2)", "W=g(2,a)", "W=g(a,1)", "W=g(a,2)",
            "W=g(a,a)");
    }

    // ---- choices

    @Cases.Says("its SIZE: those of its BODIES together (0: there are none).")
    private static void choice_sizeIsTogether_0IfThereAreNone() {
        due("no letters", Probe.with("f(a)=f(a);").solutions(), 1);
        due("no letters", Probe.with("f(a)=f(a);").size(0), 0);
        due("no equations", new Probe().size(0), 0);
        due("a letter", Probe.with("U=a;").size(0), 1);
        due("three letters", Probe.with("U=f(b);V(a)=b;Z(a,a)=g(a,b);").size(0), 2 + 1 + 3);
        due("a letter that stands there twice", Probe.with("U=f(b);f(U)=f(f(b));").size(0), 2);
    }

    @Cases.Says("A CHOICE: a BODY for each FLEX letter that stands in the EQUATIONS")
    private static void choice_onlyForLettersThatStandThere() {
        Probe x = Probe.with("U=a;X=b;");
        due("both", x.solution(0), "U=a X=b");
        x.drops(0);
        due("one is left", x.solution(0), "X=b");
        x.drops(0);
        due("none is left", x.solution(0), "");
        due("and there is a solution", x.solutions(), 1);
        x.back();
        x.back();
        due("both again", x.solution(0), "U=a X=b");
        dueSolved("W(Y(a),b)=b;W(a,a)=a;Y(a)=f(Y(a));");
        due("a letter that has no say", solved("V(U)=V(U);V(a)=b;").subList(0, 3).toString(), "[U=a V=b, U=b V=b, U=f(a) V=b]");
    }

    @Cases.Says("By it a TERM becomes: each FLEX letter with its parts (as they have become) its BODY, 1 and 2 in it being those parts.")
    private static void choice_partsAsTheyHaveBecome() {
        Probe x = Probe.with("W(W(a,b),W(b,a))=g(g(a,b),g(b,a));W(a,b)=g(b,a);");
        due("W", x.solution(0), "W=g(2,1)");
        due("inside first", x.grown(0, 0, 0), "ggabgba");
        Probe y = Probe.with("V(Y(V(a)))=f(g(f(a),b));V(b)=f(b);V(f(a))=f(f(a));Y(b)=g(b,b);");
        due("V and Y", y.solution(0), "V=f(1) Y=g(1,b)");
        due("inside first", y.grown(0, 0, 0), "fgfab");
        Probe z = Probe.with("V(V(V(a)))=b;V(b)=b;");
        due("a part that is left out", z.solution(z.solutions() - 1), "V=b");
    }

    /** By V = g(1,f(1)) six letters V become 190 NODES, with f around them as many more. */
    private static int indexOfDoubled(String text) {
        return solved(text).indexOf("V=g(1,f(1))");
    }

    @Cases.Says("It SOLVES, if LEFT and RIGHT of each EQUATION become the same, none having more than 200 NODES then.")
    private static void choice_solvesWith200NodesAtMost() {
        String six = nested("V", 6, "a");
        for (int around = 9; around <= 11; around++) {
            String[] texts = {alike(nested("f", around, six)), "a=a;" + alike(nested("f", around, six))};
            for (int e = 0; e < texts.length; e++) {
                int i = indexOfDoubled(texts[e]);
                due("solves with " + (190 + around) + " nodes", i >= 0 ? 1 : 0, around <= 10 ? 1 : 0);
                if (around <= 10) {
                    due("left", Probe.with(texts[e]).becomes(i, e, 0, NONE), 190 + around);
                    due("right", Probe.with(texts[e]).becomes(i, e, 1, NONE), 190 + around);
                }
            }
        }
    }

    @Cases.Says("It SOLVES, if LEFT and RIGHT of each EQUATION become the same, none having more than 200 NODES then.")
    private static void choice_200NodesInThreeParts() {
        // By V = g(1,g(1,f(1))) three letters V become 66 NODES; three times those and two g are 200.
        String three = nested("V", 3, "a");
        String side = "g(" + three + ",g(" + three + "," + three + "))";
        String forced = "V(a)=g(a,g(a,f(a)));";
        Probe fits = Probe.with(alike(side) + forced);
        due("200 nodes", fits.solutions(), 8);
        due("the first", fits.solution(0), "V=g(1,g(1,f(1)))");
        due("left", fits.becomes(0, 0, 0, NONE), 200);
        Probe over = Probe.with(alike("f(" + side + ")") + forced);
        due("201 nodes", over.solutions(), 7);
        due("the first", over.solution(0), "V=g(1,g(1,f(a)))");
    }

    @Cases.Says("It SOLVES, if LEFT and RIGHT of each EQUATION become the same, none having more than 200 NODES then.")
    private static void choice_200NodesOfAFlexFront() {
        // By V = g(1,f(1)) a part of n NODES becomes 2 n + 2; five letters V become 94 NODES.
        for (int around = 4; around <= 6; around++) {
            String text = alike("V(" + nested("f", around, nested("V", 5, "a")) + ")");
            int i = indexOfDoubled(text);
            due("solves with " + (190 + 2 * around) + " nodes", i >= 0 ? 1 : 0, around <= 5 ? 1 : 0);
            if (around <= 5) {
                due("left", Probe.with(text).becomes(i, 0, 0, NONE), 190 + 2 * around);
            }
        }
        // By V = g(1,g(1,f(1))) four letters V become 201 NODES; by the seven others of its kind, fewer.
        String forced = "V(a)=g(a,g(a,f(a)));";
        Probe over = Probe.with(alike(nested("V", 4, "a")) + forced);
        due("201 nodes", over.solutions(), 7);
        due("the first", over.solution(0), "V=g(1,g(1,f(a)))");
    }

    @Cases.Says("none having more than 200 NODES then.")
    private static void choice_200NodesAreForEachSideAlone() {
        // By V = g(1,g(1,1)) four letters V become 161 NODES: 644 in all, yet no side has too many.
        String four = nested("V", 4, "a");
        Probe x = Probe.with(alike(four) + alike(four) + "V(a)=g(a,g(a,a));");
        due("solutions", x.solutions(), 8);
        due("the first", x.solution(0), "V=g(1,g(1,1))");
        due("nodes", x.becomes(0, 1, 1, NONE), 161);
    }

    @Cases.Says("none having more than 200 NODES then.")
    private static void choice_200NodesAreOfWhatASideBecomes() {
        // By V = g(1,1) eight letters V become 511 NODES, but Y and W leave them out.
        String large = nested("V", 8, "a");
        dueSolved("Y(" + large + ")=b;V(a)=g(a,a);V(b)=g(b,b);", "V=g(1,1) Y=b");
        Probe x = Probe.with("W(b," + large + ")=f(b);V(a)=g(a,a);V(b)=g(b,b);");
        due("solution", x.solution(0), "V=g(1,1) W=f(1)");
        due("left", x.grown(0, 0, 0), "fb");
    }

    @Cases.Says("SOLUTIONS: CHOICES of SIZE 6 at most that SOLVE")
    private static void solutions_size6AtMost() {
        String[] single = {"U=f(f(f(f(a))));", "U=f(f(f(f(f(a)))));", "U=f(f(f(f(f(f(a))))));"};
        String[] both = {"U=f(f(f(a)));X=b;", "U=f(f(f(a)));X=f(b);", "U=f(f(f(a)));X=f(f(b));"};
        String[] many = {"W(b,X)=U;V(a)=b;Y(a)=b;X=b;", "W(b,X)=U;V(a)=b;Y(a)=b;X=f(b);", "W(b,X)=U;V(a)=b;Y(a)=f(b);X=f(b);"};
        for (int n = 0; n < 3; n++) {
            for (String text : new String[] {single[n], both[n], many[n]}) {
                Probe x = Probe.with(text);
                due("there are solutions of " + text, x.solutions() > 0 ? 1 : 0, n < 2 ? 1 : 0);
                due("the first one's size, " + text, x.size(0), n < 2 ? 5 + n : NO);
            }
        }
        due("six letters", Probe.with("W(U,V(X))=Z(Y(a),b);").size(0), 6);
        due("six letters", Probe.with("W(U,V(X))=f(Z(Y(a),b));").solutions(), 0);
    }

    @Cases.Says("the lesser SIZE first, of like ones that is ahead whose BODY is for the first letter (of U, V, .. Z) where they differ.")
    private static void solutions_order() {
        String[] want = {"U=a X=a", "U=a X=b", "U=b X=a", "U=b X=b", "U=a X=f(a)", "U=a X=f(b)", "U=b X=f(a)", "U=b X=f(b)",
            "U=f(a) X=a", "U=f(a) X=b", "U=f(b) X=a", "U=f(b) X=b", "U=a X=f(f(a))"};
        due("U and X", solved("U=U;X=X;").subList(0, want.length).toString(), List.of(want).toString());
        due("told the other way round", solved("X=X;U=U;").subList(0, want.length).toString(), List.of(want).toString());
        dueSolved("V(a)=f(a);Y(a)=f(a);", "V=f(1) Y=f(1)", "V=f(1) Y=f(a)", "V=f(a) Y=f(1)", "V=f(a) Y=f(a)");
        dueSolved("Z(b,a)=b;W(b,a)=b;", "W=1 Z=1", "W=1 Z=b", "W=b Z=1", "W=b Z=b");
    }

    @Cases.Says("No more than the first 40 are told.")
    private static void solutions_noMoreThanTheFirst40() {
        // There are 39, 40 and 41 of these.
        String[] texts = {"V(a)=g(U,Z(X,a));", "V(a)=Y(a);", "V(Y(U))=g(a,a);"};
        int[] want = {39, 40, 40};
        for (int n = 0; n < 3; n++) {
            Probe x = Probe.with(texts[n]);
            due("solutions of " + texts[n], x.solutions(), want[n]);
            due("the last but one", x.size(want[n] - 2) > 0 ? 1 : 0, 1);
            due("the last", x.size(want[n] - 1) > 0 ? 1 : 0, 1);
            due("behind it", x.size(want[n]), NO);
        }
        List<String> told = solved(texts[2]);
        due("the first", told.get(0), "U=a V=1 Y=g(1,1)");
        due("the 40th", told.get(39), "U=f(b) V=g(a,a) Y=a");
        // With two more EQUATIONS the 39th to the 41st are left.
        dueSolved("V(Y(U))=g(a,a);U=f(b);V(b)=g(a,a);", "U=f(b) V=g(a,a) Y=1", "U=f(b) V=g(a,a) Y=a", "U=f(b) V=g(a,a) Y=b");
    }

    // ---- pairs

    @Cases.Says("in its place come its parts, first with first, second with second (of a, b: none).")
    private static void pairs_partsInPlace_ofAAndBNone() {
        due("no equations", new Probe().pairs(0), 0);
        due("a and b", Probe.with("a=a;b=b;").pairs(0), 0);
        due("all alike", Probe.with(alike(wide(10, "a"))).pairs(0), 0);
        due("a chain", Probe.with(alike(nested("f", 19, "b"))).pairs(0), 0);
        due("a chain with a clash at its end", Probe.with(nested("f", 19, "a") + "=" + nested("f", 19, "b") + ";").pairs(0), 1);
        Probe x = Probe.with("U=a;g(g(a,U),g(V(a),b))=g(g(b,X),g(Y(b),f(b)));X=b;");
        String[] want = {"Ua", "ab", "UX", "VY", "bf", "Xb"};
        due("many", x.pairs(0), want.length);
        for (int i = 0; i < want.length; i++) {
            due("pair " + i, "" + (char) x.pair(i, 0) + (char) x.pair(i, 1), want[i]);
        }
    }

    @Cases.Says("as long as there is one both of whose sides begin with one of a, b, f, g, the same on both")
    private static void pairs_flexFrontsAreNotTakenApart() {
        String[] terms = {"U", "V(a)", "W(a,a)", "X", "Y(a)", "Z(a,a)"};
        for (String term : terms) {
            Probe x = Probe.with(alike(term));
            due("pairs of " + term, x.pairs(0), 1);
            due("its first letter", x.pair(0, 0), term.charAt(0));
            due("FLEX", x.pairs(3), 1);
        }
    }

    @Cases.Says("A PAIR whose sides begin with unlike ones of a, b, f, g CLASHES; a PAIR is FLEX, if both sides begin with FLEX letters, HALF, if one does.")
    private static void pairs_kindByEachTwoFronts() {
        for (int l = 0; l < LETTERS.length(); l++) {
            for (int r = 0; r < LETTERS.length(); r++) {
                String[] behind = {"", "(b)", "(b,b)"};
                String text = LETTERS.charAt(l) + behind[PARTS[l]] + "=" + LETTERS.charAt(r) + behind[PARTS[r]] + ";";
                Probe x = Probe.with(text);
                int flex = (l >= 4 ? 1 : 0) + (r >= 4 ? 1 : 0);
                boolean isGone = flex == 0 && l == r;
                due("pairs of " + text, x.pairs(0), isGone ? 0 : 1);
                for (int kind = 1; kind <= 3; kind++) {
                    due("of kind " + kind + " in " + text, x.pairs(kind), !isGone && kind == flex + 1 ? 1 : 0);
                }
                due("the kind of " + text, x.pair(0, 4), isGone ? NOT_SO_MANY : flex + 1);
            }
        }
    }

    @Cases.Says("WAYS of a HALF one: 1 (to begin as the other side does), and how many parts its FLEX letter has.")
    private static void pairs_waysByPartsOfTheFlexLetter() {
        String[] terms = {"U", "V(b)", "W(b,b)", "X", "Y(b)", "Z(b,b)"};
        for (int x = U; x <= Z; x++) {
            for (String other : new String[] {"a", "f(a)", "g(a,a)"}) {
                due("ways of " + terms[x], Probe.with(terms[x] + "=" + other + ";").pair(0, 5), 1 + x % 3);
                due("ways of " + terms[x], Probe.with(other + "=" + terms[x] + ";").pair(0, 5), 1 + x % 3);
            }
            due("ways of a FLEX one", Probe.with(terms[x] + "=Z(a,a);").pair(0, 5), 0);
        }
        due("ways of a clash", Probe.with("f(a)=g(a,a);").pair(0, 5), 0);
    }

    // ---- the text

    @Cases.Says("THE TEXT (120 bytes at most)")
    private static void text_120BytesAtMost() {
        for (int blanks = 2; blanks <= 4; blanks++) {
            // 117 bytes and a ; behind, with blanks ahead: the ; is the 119th, the 120th or the 121st byte.
            Probe x = new Probe();
            x.types(" ".repeat(blanks - 1) + nested("f", 38, "a") + "=a");
            due("the last byte", x.type(';'), blanks <= 3 ? 117 + blanks : FULL);
            due("bytes", x.told(3), Math.min(117 + blanks, 120));
            due("reads", x.reads(), blanks <= 3 ? 1 : -130);
        }
    }

    @Cases.Says("tells EQUATIONS, each TERM = TERM and ; behind (perhaps none at all).")
    private static void text_perhapsNoneAtAll() {
        dueReads("", 0);
        dueReads(" ", 0);
        dueReads(" ".repeat(120), 0);
        Probe x = Probe.with("U=a;");
        due("none", x.tell(""), 0);
        due("equations", x.told(4), 0);
        due("states", x.told(7), 2);
        dueFault(";", 0);
        dueFault("a=a;;", 4);
        dueFault("a=a", 3);
    }

    @Cases.Says("Blanks (32) may stand anywhere.")
    private static void text_blanksAnywhere() {
        String text = "g(a,f(U))=W(X,b);V(Y(a))=Z(b,b);";
        for (int at = 0; at <= text.length(); at++) {
            for (int many = 1; many <= 2; many++) {
                Probe x = Probe.with(text.substring(0, at) + " ".repeat(many) + text.substring(at));
                due("a blank at " + at, x.equations(), text);
            }
            for (int other : new int[] {0, 9, 10, 13, 31, 33, 95, 127}) {
                dueFault(text.substring(0, at) + (char) other + text.substring(at), at);
            }
        }
        dueReads(text.replaceAll("", " "), 2);
    }

    // ---- faults

    @Cases.Says("FAULT: the place of the first byte that can not stand there")
    private static void fault_eachByteAtEachPlace() {
        String[] ahead = {"", "a=", "f(", "g(", "g(a,", "Z(", "Z(f(a),", "a=a;", "a", "f(a)", "g(a,a)", "X", "f", "V", "g", "Y(W", "f(a",
            "g(a,a", "Y(f(a)", "Z(a,U", "g(a", "W(f(a)", "a=a", "a=f(a)", "a=W(a,a)"};
        String[] next = {LETTERS, LETTERS, LETTERS, LETTERS, LETTERS, LETTERS, LETTERS, LETTERS, "=", "=", "=", "=", "(", "(", "(", "(", ")",
            ")", ")", ")", ",", ",", ";", ";", ";"};
        for (int n = 0; n < ahead.length; n++) {
            for (int c = 0; c <= 127; c++) {
                String text = ahead[n] + (char) c;
                boolean isWhole = text.endsWith(";") || text.isBlank() || text.equals("a=a; ");
                boolean stands = c == ' ' || next[n].indexOf(c) >= 0;
                int want = !stands ? -10 - ahead[n].length() : isWhole ? text.isBlank() ? 0 : 1 : -10 - text.length();
                due("reads of " + ahead[n] + " and byte " + c, new Probe().tell(text), want);
            }
        }
    }

    @Cases.Says("FAULT: the place of the first byte that can not stand there")
    private static void fault_firstPlaceAndLast() {
        dueFault(")a=a;;", 0);
        dueFault("a=a;".repeat(3) + ")=)", 12);
        Probe x = new Probe();
        x.types(" ".repeat(119) + "=");
        due("the last place", x.reads(), -10 - 119);
        Probe y = new Probe();
        y.types(" ".repeat(118) + "a");
        due("just behind 119", y.reads(), -10 - 119);
        y.type(' ');
        due("just behind 120", y.reads(), -10 - 120);
    }

    @Cases.Says("(the first byte of a 5th EQUATION")
    private static void fault_firstByteOfA5thEquation() {
        String four = "a=b;U=X;f(a)=f(b);Z(a,b)=a;";
        dueReads(four, 4);
        dueReads(four + "   ", 4);
        for (String fifth : new String[] {"a=a;", "U", "W(a,", "=", ";", "1", ")"}) {
            dueFault(four + fifth, four.length());
            dueFault(four + "  " + fifth, four.length() + 2);
        }
        dueFault("a=b;U=X;f(a)=f(b);Z(a,b)=a", 26);
        dueFault("a=b;U=X;f(a)=f(b);Z(a,b)=c;a=a;", 25);
    }

    @Cases.Says("the letter by which there would be more than 40 NODES)")
    private static void fault_letterOfThe41stNode() {
        String open = "f(".repeat(38);
        for (int n = 0; n < LETTERS.length(); n++) {
            // This letter is the 39th, the 40th, the 41st; a FAULT behind the last byte says that it may stand there.
            String letter = LETTERS.substring(n, n + 1);
            dueFault(open + letter, 77);
            dueFault(open + "f(" + letter, 79);
            dueFault(open + "f(f(" + letter, 80);
            dueFault(open + "f( f(  " + letter + "))", 83);
        }
        String chain = nested("f", 18, "a");
        Probe x = new Probe();
        x.types(chain + "=" + chain + ";a=b;");
        due("40 nodes", x.reads(), 2);
        due("nodes", x.told(5), 40);
        x.types(" U=");
        due("41 nodes", x.reads(), -10 - 117);
        due("nothing changes", x.told(5), 40);
        String behind = alike(wide(10, "a")) + "f(U)=b;";
        dueFault(behind, behind.indexOf('b'));
    }

    @Cases.Says("the TEXT's length, if it ends too early.")
    private static void fault_lengthIfItEndsTooEarly() {
        String text = "g(a,f(U))=W(X,b);V(Y(a))=Z(b,b);";
        for (int length = 0; length <= text.length(); length++) {
            int whole = length == 0 ? 0 : length == 17 ? 1 : length == 32 ? 2 : NONE;
            dueReads(text.substring(0, length), whole == NONE ? -10 - length : whole);
            dueReads(text.substring(0, length) + "  ", whole == NONE ? -12 - length : whole);
        }
    }

    // ---- states

    @Cases.Says("STATES: each call told S, if it is not refused, leaves one")
    private static void states_leftByReadsDropsTurnsAlone() {
        Probe x = new Probe();
        due("none", x.told(7), 0);
        x.types("U=a;V(a)=g(a,b);");
        due("none by type", x.told(7), 0);
        x.reads();
        due("by reads", x.told(7), 1);
        x.turns(0);
        due("by turns", x.told(7), 2);
        x.drops(0);
        due("by drops", x.told(7), 3);
        x.clear();
        x.of(0, 0, 0);
        x.shown(0, 0);
        x.pairs(0);
        x.pair(0, 0);
        x.solutions();
        x.size(0);
        x.body(0, V, 0);
        x.becomes(0, 0, 0, 0);
        x.bodies(0, 1);
        x.told(0);
        x.digest();
        due("none by the others", x.told(7), 3);
        x.back();
        due("one less by back", x.told(7), 2);
    }

    @Cases.Says("STATES: each call told S, if it is not refused, leaves one")
    private static void states_noneByRefusalOrFault() {
        Probe x = Probe.with("U=a;");
        x.drops(-1);
        x.drops(1);
        x.turns(-1);
        x.turns(1);
        x.tell("U=a");
        x.tell("U=a;U=a;U=a;U=a;U=a;");
        due("states", x.told(7), 1);
        due("back", x.back(), 0);
        due("equations", x.equations(), "");
    }

    @Cases.Says("also if nothing changes by it")
    private static void states_leftIfNothingChanges() {
        Probe x = new Probe();
        due("none of none", x.reads(), 0);
        due("states", x.told(7), 1);
        x.tell("a=a;");
        due("states", x.told(7), 2);
        due("the same again", x.reads(), 1);
        due("states", x.told(7), 3);
        due("like sides", x.turns(0), 1);
        due("states", x.told(7), 4);
        String[] want = {"a=a;", "a=a;", "", ""};
        for (int n = 0; n < want.length; n++) {
            due("back", x.back(), 3 - n);
            due("equations", x.equations(), want[n]);
        }
        due("none", x.back(), NO);
    }

    @Cases.Says("5 at most, older ones lost.")
    private static void states_5AtMost_olderOnesLost() {
        String[] texts = {"", "a=a;", "b=b;", "U=a;", "U=b;", "X=a;", "X=b;", "V(a)=a;"};
        for (int many = 4; many <= 7; many++) {
            Probe x = new Probe();
            for (int n = 1; n <= many; n++) {
                x.tell(texts[n]);
                due("states", x.told(7), Math.min(n, 5));
            }
            int steps = Math.min(many, 5);
            for (int step = 1; step <= steps; step++) {
                due("back", x.back(), steps - step);
                due("equations", x.equations(), texts[many - step]);
            }
            due("none", x.back(), NO);
            due("equations stay", x.equations(), texts[many - steps]);
        }
    }

    @Cases.Says("to go back to (EQUATIONS)")
    private static void states_holdTheEquationsAlone() {
        Probe x = Probe.with("U=a;");
        x.tell("X=b;V(a)=a;");
        x.told(8);
        x.size(-1);
        x.size(99);
        due("back", x.back(), 1);
        due("equations", x.equations(), "U=a;");
        due("the text stays", x.told(3), 11);
        due("counts stay", x.told(0), 2);
        due("counts stay", x.told(1), 1);
        due("the text is read again", x.reads(), 2);
        due("equations", x.equations(), "X=b;V(a)=a;");
        due("states", x.told(7), 2);
    }

    // ---- refusals

    @Cases.Says("Refused (a question, too), changing nothing but how often")
    private static void refused_questionsCountToo() {
        Probe x = Probe.with("U=a;");
        x.of(1, 0, 0);
        x.shown(1, 0);
        x.pairs(4);
        x.pair(-1, 0);
        x.size(-1);
        x.body(-1, 0, 0);
        x.becomes(-1, 0, 0, 0);
        x.bodies(6, 1);
        x.told(8);
        due("bads", x.told(0), 9);
        x.size(1);
        x.body(1, 0, 0);
        x.becomes(1, 0, 0, 0);
        due("noes", x.told(1), 3);
        due("fulls", x.told(2), 0);
    }

    @Cases.Says("the first of: BAD -2 a number is not as told; NO -3 as told; FULL -4 as told.")
    private static void refused_badAheadOfNoAndFull() {
        Probe x = Probe.with("U=a;");
        due("body", x.body(1, 6, 0), BAD);
        due("body", x.body(1, 0, -2), BAD);
        due("body", x.body(1, -1, 0), BAD);
        due("becomes", x.becomes(1, 1, 0, 0), BAD);
        due("becomes", x.becomes(1, 0, 2, 0), BAD);
        due("becomes", x.becomes(1, 0, 0, -2), BAD);
        due("bads", x.told(0), 6);
        due("noes", x.told(1), 0);
        x.clear();
        x.types(" ".repeat(120));
        due("type", x.type(-1), BAD);
        due("type", x.type(128), BAD);
        due("bads", x.told(0), 8);
        due("fulls", x.told(2), 0);
        due("type", x.type(127), FULL);
        due("fulls", x.told(2), 1);
        due("NO ahead of -5", x.body(1, X, 99), NO);
        due("BAD ahead of -5", x.pair(99, 6), BAD);
    }

    @Cases.Says("By what THE TEXT tells, by a FAULT of it nothing counts.")
    private static void refused_nothingCountsByAFault() {
        Probe x = Probe.with("U=a;");
        for (String text : new String[] {"c", "a=a;;", "a", "a=a;a=a;a=a;a=a;a=a;", "f(", "V=a;"}) {
            due("reads", x.tell(text) <= -10 ? 1 : 0, 1);
        }
        x.clear();
        x.types("f(".repeat(60));
        due("too many nodes", x.reads(), -10 - 80);
        x.clear();
        for (int c : new int[] {0, 31, 127}) {
            x.type(c);
        }
        due("bytes that stand nowhere", x.reads(), -10);
        for (int what = 0; what < 3; what++) {
            due("told " + what, x.told(what), 0);
        }
        due("equations stay", x.equations(), "U=a;");
        due("states stay", x.told(7), 1);
    }
}
