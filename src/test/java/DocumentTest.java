import java.io.IOException;
import java.nio.file.Files;
import java.nio.file.Path;
import java.util.ArrayList;
import java.util.Arrays;
import java.util.List;
import java.util.regex.Matcher;
import java.util.regex.Pattern;
import java.util.stream.Collectors;
import java.util.stream.Stream;

/**
 * The document from its first line: cases for those sentences that name no boundary, and a look at all
 * cases of the project, whether they quote the document word for word and leave no sentence of it out.
 */
public final class DocumentTest {
    private static final int NO = Probe.NO;
    private static final Path DOCUMENT = Path.of("../shared/DOC.md");
    private static final Path TESTS = Path.of("src/test/java");

    public static void main(String[] args) throws IllegalAccessException {
        Cases.run(DocumentTest.class);
    }

    private static void due(String call, long got, long want) {
        Cases.due(call, got, want);
    }

    private static void due(String call, String got, String want) {
        Cases.due(call, got, want);
    }

    private static String nested(String letter, int high, String inside) {
        return (letter + "(").repeat(high) + inside + ")".repeat(high);
    }

    /** All SOLUTIONS; a new object for each, as an object is used for 512 calls only. */
    private static List<String> solved(String text) {
        List<String> all = new ArrayList<>();
        int many = Probe.with(text).solutions();
        for (int i = 0; i < many; i++) {
            all.add(Probe.with(text).solution(i));
        }
        return all;
    }

    private static void dueSolved(String text, String... want) {
        due("solutions of " + text, solved(text).toString(), List.of(want).toString());
    }

    // ---- What it is

    @Cases.Says("Terms with letters that stand for ways to build terms of their parts")
    private static void whatItIs_lettersStandForWays() {
        dueSolved("W(a,b)=g(b,a);", "W=g(2,1)", "W=g(2,a)", "W=g(b,1)", "W=g(b,a)");
        dueSolved("Z(a,b)=b;Z(b,a)=a;", "Z=2");
        dueSolved("Y(a)=f(a);Y(b)=f(b);", "Y=f(1)");
        dueSolved("U=X;X=g(a,b);", "U=g(a,b) X=g(a,b)");
        dueSolved("V(a)=b;V(b)=a;");
    }

    @Cases.Says("equations taken apart until a letter stands at the front of a side or two fronts clash")
    private static void whatItIs_takenApart() {
        Probe x = Probe.with("g(f(U),g(a,f(b)))=g(f(b),g(f(X),f(V(U))));");
        due("pairs", x.pairs(0), 3);
        String[] fronts = {"Ub", "af", "bV"};
        int[] kinds = {2, 1, 2};
        for (int i = 0; i < fronts.length; i++) {
            due("pair " + i, "" + (char) x.pair(i, 0) + (char) x.pair(i, 1), fronts[i]);
            due("its kind", x.pair(i, 4), kinds[i]);
        }
        due("what clashes has no solutions", x.solutions(), 0);
    }

    @Cases.Says("all choices of ways, small ones first, by which both sides of all equations come to the same term")
    private static void whatItIs_allChoicesSmallOnesFirst() {
        dueSolved("V(U)=f(b);", "U=a V=f(b)", "U=b V=f(1)", "U=b V=f(b)", "U=f(b) V=1", "U=f(a) V=f(b)", "U=f(b) V=f(b)", "U=f(f(a)) V=f(b)",
            "U=f(f(b)) V=f(b)", "U=g(a,a) V=f(b)", "U=g(a,b) V=f(b)", "U=g(b,a) V=f(b)", "U=g(b,b) V=f(b)", "U=f(f(f(a))) V=f(b)",
            "U=f(f(f(b))) V=f(b)", "U=f(g(a,a)) V=f(b)", "U=f(g(a,b)) V=f(b)", "U=f(g(b,a)) V=f(b)", "U=f(g(b,b)) V=f(b)",
            "U=g(a,f(a)) V=f(b)", "U=g(a,f(b)) V=f(b)", "U=g(b,f(a)) V=f(b)", "U=g(b,f(b)) V=f(b)", "U=g(f(a),a) V=f(b)",
            "U=g(f(a),b) V=f(b)", "U=g(f(b),a) V=f(b)", "U=g(f(b),b) V=f(b)");
        dueSolved("V(U)=f(b);V(a)=f(a);", "U=b V=f(1)");
        dueSolved("V(U)=f(b);V(a)=f(a);U=a;");
    }

    @Cases.Says("what a side comes to by such a choice")
    private static void whatItIs_whatASideComesTo() {
        Probe x = Probe.with("g(V(U),a)=W(a,f(b));V(b)=f(b);U=b;W(a,a)=g(a,a);");
        due("the first choice", x.solution(0), "U=b V=f(1) W=g(2,1)");
        String[][] want = {{"gfba", "gfba"}, {"fb", "fb"}, {"b", "b"}, {"gaa", "gaa"}};
        for (int e = 0; e < want.length; e++) {
            due("left of " + e, x.grown(0, e, 0), want[e][0]);
            due("right of " + e, x.grown(0, e, 1), want[e][1]);
        }
    }

    @Cases.Says("told in a text, shown, taken back.")
    private static void whatItIs_toldShownTakenBack() {
        Probe x = new Probe();
        x.types(" V (U )= f( b);X=\u0020a ;");
        due("reads", x.reads(), 2);
        due("shown", x.equations(), "V(U)=f(b);X=a;");
        due("turns", x.turns(0), 2);
        due("drops", x.drops(1), 1);
        due("shown", x.equations(), "f(b)=V(U);");
        due("back", x.back(), 2);
        due("shown", x.equations(), "f(b)=V(U);X=a;");
        due("back", x.back(), 1);
        due("shown", x.equations(), "V(U)=f(b);X=a;");
        due("back", x.back(), 0);
        due("shown", x.equations(), "");
        due("back", x.back(), NO);
    }

    @Cases.Says("what later calls answer is free.")
    private static void whatItIs_laterCallsEndAndDoNotThrow() {
        FlexTerms x = new FlexTerms();
        for (int n = 0; n < 3000; n++) {
            x.type("V(U)=f(b);".charAt(n % 10));
            x.reads();
            x.told(n % 9);
            x.turns(n % 2);
            x.drops(n % 3);
            x.back();
            x.solutions();
            x.becomes(0, 0, 0, n % 4);
            x.digest();
            if (n % 20 == 19) {
                x.clear();
            }
        }
    }

    // ---- Terms

    @Cases.Says("as a TERM made of a, b, f, g and of 1 (for V, W, Y, Z), 2 (for W, Z) in place of TERMS")
    private static void body_isMadeAsATerm() {
        String[] texts = {"U=U;", "V(b)=V(b);", "W(b,b)=W(b,b);", "X=X;", "Y(b)=Y(b);", "Z(b,b)=Z(b,b);", "g(U,V(b))=g(X,Y(b));"};
        for (String text : texts) {
            for (String solution : solved(text)) {
                for (String one : solution.split(" ")) {
                    // With a letter in place of the figures a BODY must be a TERM that can be read.
                    String term = one.substring(2).replace('1', 'a').replace('2', 'b');
                    due("a term is made by " + one, new Probe().tell(term + "=a;"), 1);
                }
            }
        }
    }

    @Cases.Says("By it a TERM becomes: each FLEX letter with its parts (as they have become) its BODY, 1 and 2 in it being those parts. "
        + "It SOLVES, if LEFT and RIGHT of each EQUATION become the same, none having more than 200 NODES then.")
    private static void choice_aPartLeftOutMayHaveMoreThan200Nodes() {
        // By V = g(1,1) six letters V become 127 NODES, seven 255, and 31 of them more than an int can count.
        String[] doubled = {"V=g(1,1)", "V=g(1,a)", "V=g(a,1)", "V=g(a,a)"};
        for (int high : new int[] {6, 7, 8, 29}) {
            String large = nested("V", high, "a");
            dueSolved("W(b," + large + ")=f(b);V(a)=g(a,a);", both(doubled, "W=f(1)", "W=f(b)"));
            dueSolved("W(" + large + ",b)=f(b);V(a)=g(a,a);", both(doubled, "W=f(2)", "W=f(b)"));
            dueSolved("f(b)=Y(" + large + ");V(a)=g(a,a);", both(doubled, "Y=f(b)"));
            dueSolved("f(Z(a," + large + "))=f(b);V(a)=g(a,a);", both(doubled, "Z=b"));
        }
        dueSolved("Y(" + nested("V", 31, "a") + ")=f(b);V(a)=g(a,a);", both(doubled, "Y=f(b)"));
    }

    private static String[] both(String[] firsts, String... seconds) {
        List<String> all = new ArrayList<>();
        for (String first : firsts) {
            for (String second : seconds) {
                all.add(first + " " + second);
            }
        }
        return all.toArray(new String[0]);
    }

    @Cases.Says("By it a TERM becomes: each FLEX letter with its parts (as they have become) its BODY, 1 and 2 in it being those parts. "
        + "It SOLVES, if LEFT and RIGHT of each EQUATION become the same, none having more than 200 NODES then.")
    private static void choice_aPartLeftOutInsideAPartThatIsNot() {
        String large = nested("V", 8, "a");
        String forced = "V(a)=g(a,a);V(b)=g(b,b);";
        dueSolved("f(V(W(b," + large + ")))=f(g(b,b));" + forced, "V=g(1,1) W=1", "V=g(1,1) W=b");
        dueSolved("V(V(Y(" + large + ")))=g(g(b,b),g(b,b));" + forced, "V=g(1,1) Y=b");
        Probe x = Probe.with("g(Y(" + large + "),f(Y(" + large + ")))=g(b,f(b));" + forced);
        due("left out twice", x.solution(0), "V=g(1,1) Y=b");
        due("left", x.grown(0, 0, 0), "gbfb");
        // Where it is not left out, it counts, on whichever side it stands.
        for (String text : new String[] {"Y(V(V(a)))=Y(V(V(a)));", "Y(" + large + ")=Y(" + large + ");"}) {
            List<String> all = solved(text + forced);
            boolean isSmall = !text.contains(large);
            due("kept in " + text, all.contains("V=g(1,1) Y=f(1)") ? 1 : 0, isSmall ? 1 : 0);
            due("left out in " + text, all.contains("V=g(1,1) Y=f(a)") ? 1 : 0, 1);
        }
    }

    // ---- pairs

    @Cases.Says("PAIRS: each EQUATION is one, LEFT and RIGHT")
    private static void pairs_eachEquationIsOne() {
        String[] sides = {"U", "f(a)", "g(a,b)", "V(a)", "Z(a,f(b))", "X", "a", "b"};
        Probe x = Probe.with("U=f(a);g(a,b)=V(a);Z(a,f(b))=X;a=b;");
        due("pairs", x.pairs(0), 4);
        for (int n = 0; n < sides.length; n++) {
            due("its first letter", x.pair(n / 2, n % 2), sides[n].charAt(0));
            due("its nodes", x.pair(n / 2, 2 + n % 2), sides[n].replaceAll("[(),]", "").length());
        }
        x.turns(1);
        due("LEFT and RIGHT as they are now", x.pair(1, 0), 'V');
        x.drops(0);
        due("as many as there are now", x.pairs(0), 3);
        due("the first of now", x.pair(0, 0), 'V');
    }

    @Cases.Says("A PAIR whose sides begin with unlike ones of a, b, f, g CLASHES")
    private static void pairs_clashWhereverTheyStand() {
        String[] terms = {"a", "b", "f(U)", "g(U,U)"};
        for (String left : terms) {
            for (String right : terms) {
                int clashes = left.equals(right) ? 0 : 1;
                for (String around : new String[] {"?", "f(?)", "g(a,?)", "g(?,X)", "g(f(f(?)),b)"}) {
                    Probe x = Probe.with(around.replace("?", left) + "=" + around.replace("?", right) + ";");
                    due(left + " and " + right + " in " + around, x.pairs(1), clashes);
                    due("solutions", x.solutions() == 0 ? 1 : 0, clashes);
                }
                // What is below a FLEX letter is no PAIR yet.
                Probe below = Probe.with("V(" + left + ")=V(" + right + ");");
                due(left + " and " + right + " below V", below.pairs(1), 0);
                due("FLEX", below.pairs(3), 1);
            }
        }
    }

    // ---- the cases themselves

    /** The cases bear the document's words, so what no case bears is held by none. */
    @Cases.Says("Nothing is promised beyond the answers and state changes described above")
    private static void cases_holdEverySentence() throws IOException {
        if (!Files.exists(DOCUMENT)) {
            System.out.println("there is no " + DOCUMENT + ": the quotes were not compared with it");
            return;
        }
        String document = oneLine(Files.readString(DOCUMENT));
        boolean[] held = new boolean[document.length()];
        for (String quote : quotes()) {
            int at = document.indexOf(quote);
            if (at < 0) {
                Cases.fail("the document does not say: " + quote);
            }
            for (; at >= 0; at = document.indexOf(quote, at + 1)) {
                Arrays.fill(held, at, at + quote.length(), true);
            }
        }
        hold(document, held, "```java.*?```");
        hold(document, held, "## [A-Z][a-z ]*(?= ```| `| Terms| Nothing| How| U)|# FlexTerms|## What it is|```text|=+ [12]|A TERM:");
        hold(document, held, "`(int|long)? ?\\w+\\([^)]*\\)`:");
        hold(document, held, "Ahead of the calls .*?(equations|pairs|solutions|what there is)\\.(?= )");
        hold(document, held, "## Not promised .*");
        Matcher open = Pattern.compile("\\w[^.;]*").matcher(notHeld(document, held));
        while (open.find()) {
            Cases.fail("no case says: " + open.group());
        }
    }

    /** What is markup, a signature (LanguageTest looks at those) or promises nothing needs no case. */
    private static void hold(String document, boolean[] held, String free) {
        Matcher found = Pattern.compile(free).matcher(document);
        while (found.find()) {
            Arrays.fill(held, found.start(), found.end(), true);
        }
    }

    private static String notHeld(String document, boolean[] held) {
        StringBuilder out = new StringBuilder();
        for (int i = 0; i < held.length; i++) {
            out.append(held[i] ? '.' : document.charAt(i));
        }
        return out.toString();
    }

    private static String oneLine(String text) {
        return text.replaceAll("\\s+", " ");
    }

    private static List<String> quotes() throws IOException {
        List<Path> files;
        try (Stream<Path> all = Files.list(TESTS)) {
            files = all.sorted().collect(Collectors.toList());
        }
        List<String> quotes = new ArrayList<>();
        for (Path file : files) {
            Matcher says = Pattern.compile("@Cases\\.Says\\(\\s*((?:\"[^\"]*\"\\s*\\+?\\s*)+)\\)").matcher(Files.readString(file));
            while (says.find()) {
                quotes.add(oneLine(says.group(1).replaceAll("\"\\s*\\+\\s*\"", "").trim().replaceAll("^\"|\"$", "")));
            }
        }
        return quotes;
    }
}
