import java.util.ArrayList;
import java.util.Comparator;
import java.util.HashMap;
import java.util.List;
import java.util.Map;

/** Runs of many calls on FlexTerms and on a second model that follows the document's words one by one. */
public final class ModelTest {
    private static final int RUNS = 250;
    private static final int CALLS = 512;
    private static int wrong = 0;
    private static long seed = 20261117L;

    public static void main(String[] args) {
        for (int run = 0; run < RUNS && wrong < 20; run++) {
            new Run(run).play();
        }
        System.out.println(wrong == 0 ? "the model agrees" : wrong + " answers differ from the model");
        if (wrong != 0) {
            System.exit(1);
        }
    }

    /** The same numbers each time, so that a run that fails can be played again. */
    private static int next(int bound) {
        seed = seed * 6364136223846793005L + 1442695040888963407L;
        return (int) ((seed >>> 33) % bound);
    }

    private static boolean chance(int percent) {
        return next(100) < percent;
    }

    /** A number from -2 to most, at times one far away. */
    private static int around(int most) {
        if (chance(2)) {
            return chance(50) ? Integer.MAX_VALUE : Integer.MIN_VALUE;
        }
        return chance(12) ? next(most + 4) - 2 : next(most + 1);
    }

    private static final class Run {
        private final int number;
        private final FlexTerms real = new FlexTerms();
        private final Model model = new Model();
        private int calls = 0;

        Run(int number) {
            this.number = number;
        }

        void play() {
            while (calls < CALLS && wrong < 20) {
                if (chance(12) && calls < CALLS - 130) {
                    tell(Texts.some());
                } else {
                    ask();
                }
            }
        }

        private void tell(String text) {
            if (!chance(5)) {
                due("clear()", real.clear(), model.clear());
            }
            for (int i = 0; i < text.length(); i++) {
                int c = text.charAt(i);
                due("type(" + c + ")", real.type(c), model.type(c));
            }
            due("reads() of " + model.text, real.reads(), model.reads());
        }

        private void ask() {
            int a = around(4);
            int b = around(1);
            int c = around(3);
            switch (next(18)) {
                case 0: due("drops " + a, real.drops(a), model.drops(a)); break;
                case 1: due("turns " + a, real.turns(a), model.turns(a)); break;
                case 2: case 3: due("of " + a + " " + b + " " + c, real.of(a, b, c), model.of(a, b, c)); break;
                case 4: { int k = around(30) - 1; due("shown " + a + " " + k, real.shown(a, k), model.shown(a, k)); break; }
                case 5: due("pairs " + c, real.pairs(c), model.pairs(c)); break;
                case 6: case 7: { int w = around(5); due("pair " + a + " " + w, real.pair(a, w), model.pair(a, w)); break; }
                case 8: due("solutions", real.solutions(), model.solutions()); break;
                case 9: { int i = around(42); due("size " + i, real.size(i), model.size(i)); break; }
                case 10: case 11: askBody(); break;
                case 12: case 13: askBecomes(a, b); break;
                case 14: { int x = around(5); int n = around(6); due("bodies " + x + " " + n, real.bodies(x, n), model.bodies(x, n)); break; }
                case 15: due("back", real.back(), model.back()); break;
                case 16: { int w = around(7); due("told " + w, real.told(w), model.told(w)); break; }
                default: due("digest", real.digest(), model.digest()); break;
            }
        }

        private void askBody() {
            int i = around(chance(50) ? 2 : 40);
            int x = around(5);
            int k = around(16) - 1;
            due("body " + i + " " + x + " " + k, real.body(i, x, k), model.body(i, x, k));
        }

        private void askBecomes(int e, int side) {
            int i = around(chance(50) ? 2 : 40);
            int k = around(chance(80) ? 10 : 200) - 1;
            due("becomes " + i + " " + e + " " + side + " " + k, real.becomes(i, e, side, k), model.becomes(i, e, side, k));
        }

        private void due(String call, long got, long want) {
            calls++;
            if (got != want) {
                wrong++;
                System.out.println("run " + number + ", call " + calls + ": " + call + " answered " + got + ", due is " + want
                    + " with " + model.equations + " of the text " + model.text);
            }
        }
    }

    /** Texts that tell EQUATIONS of all shapes, at times with a fault. */
    private static final class Texts {
        private static final String LEAVES = "aabUX";
        private static final String SINGLES = "fVY";
        private static final String DOUBLES = "gWZ";

        static String some() {
            String text;
            if (chance(15)) {
                text = tower() + "=" + (chance(50) ? tower() : term(3, 63)) + ";";
            } else if (chance(15)) {
                text = largeOnes();
            } else {
                text = plain();
            }
            if (chance(15)) {
                text = damaged(text);
            }
            return chance(20) ? blanked(text) : text;
        }

        private static String plain() {
            int many = chance(3) ? 5 : chance(60) ? 1 : next(5);
            int letters = chance(10) ? 63 : next(64);
            StringBuilder text = new StringBuilder();
            for (int e = 0; e < many; e++) {
                int deep = many > 2 ? 2 : 1 + next(4);
                String left = term(deep, letters);
                text.append(left).append('=').append(chance(30) ? varied(left, letters) : term(deep, letters)).append(';');
            }
            return text.toString();
        }

        /** Many letters in one another, which become large TERMS. */
        private static String tower() {
            String text = chance(50) ? "a" : "U";
            int high = 1 + next(17);
            char letter = SINGLES.charAt(next(3));
            for (int i = 0; i < high; i++) {
                letter = chance(80) ? letter : SINGLES.charAt(next(3));
                text = chance(8) ? "W(" + text + ",b)" : letter + "(" + text + ")";
            }
            return text;
        }

        /** Like sides of about 200 NODES by some BODY, or a large part that a BODY may leave out. */
        private static String largeOnes() {
            String inside = chance(50) ? "a" : chance(50) ? "f(a)" : "U";
            int high = 4 + next(5);
            String large = "V(".repeat(high) + inside + ")".repeat(high);
            if (chance(40)) {
                String forced = "V(a)=g(a,a);" + (chance(50) ? "V(b)=g(b,b);" : "");
                return leavingOut(large) + forced;
            }
            int around = next(12);
            String side = "f(".repeat(around) + large + ")".repeat(around);
            return side + "=" + side + ";";
        }

        private static String leavingOut(String large) {
            String[] lefts = {"Y(?)", "W(b,?)", "W(?,b)", "Y(Y(?))", "f(W(V(b),?))", "V(Y(?))", "Z(W(?,a),b)", "W(Y(?),V(a))", "g(Y(?),V(b))"};
            String[] rights = {"b", "f(b)", "g(b,b)", "f(g(b,b))", "Y(a)", "V(b)", "U", "W(b,b)", "g(b,g(b,b))", "Y(f(?))"};
            // Both sides with a part of eight letters are still well below 40 NODES.
            return lefts[next(lefts.length)].replace("?", large) + "=" + rights[next(rights.length)].replace("?", large) + ";";
        }

        private static String term(int deep, int letters) {
            int parts = deep <= 1 ? 0 : next(3);
            String from = parts == 0 ? LEAVES : parts == 1 ? SINGLES : DOUBLES;
            char letter = from.charAt(next(from.length()));
            if (letter >= 'U' && letter <= 'Z' && (letters >> (letter - 'U') & 1) == 0) {
                letter = from.charAt(0);
            }
            if (parts == 0) {
                return String.valueOf(letter);
            }
            String first = term(deep - 1, letters);
            return parts == 1 ? letter + "(" + first + ")" : letter + "(" + first + "," + term(deep - 1, letters) + ")";
        }

        /** A like text with some leaves replaced, so that many EQUATIONS have solutions. */
        private static String varied(String left, int letters) {
            StringBuilder text = new StringBuilder();
            for (int i = 0; i < left.length(); i++) {
                char c = left.charAt(i);
                boolean isLeaf = LEAVES.indexOf(c) >= 0;
                text.append(isLeaf && chance(30) ? term(2, letters) : String.valueOf(c));
            }
            return text.toString();
        }

        private static String damaged(String text) {
            StringBuilder changed = new StringBuilder(text);
            int at = next(text.length() + 1);
            switch (next(4)) {
                case 0: changed.insert(at, "(),=;afgUVWZ1T \u0000\u007f".charAt(next(17))); break;
                case 1: if (at < text.length()) changed.deleteCharAt(at); break;
                case 2: changed.setLength(at); break;
                default: if (at < text.length()) changed.setCharAt(at, "(),=;afgUVWZ1T ".charAt(next(15))); break;
            }
            return changed.toString();
        }

        private static String blanked(String text) {
            StringBuilder changed = new StringBuilder();
            for (int i = 0; i < text.length(); i++) {
                changed.append(text.charAt(i)).append(chance(30) ? " " : "");
            }
            return changed.toString();
        }
    }

    private static final class Fault extends RuntimeException {
        private static final long serialVersionUID = 1L;
        final int place;

        Fault(int place) {
            super(null, null, false, false);
            this.place = place;
        }
    }

    private static final class TooLarge extends RuntimeException {
        private static final long serialVersionUID = 1L;

        TooLarge() {
            super(null, null, false, false);
        }
    }

    private static final class Node {
        final char letter;
        final List<Node> parts = new ArrayList<>();

        Node(char letter) {
            this.letter = letter;
        }

        boolean isFlex() {
            return letter >= 'U' && letter <= 'Z';
        }

        int nodes() {
            int many = 1;
            for (Node part : parts) {
                many += part.nodes();
            }
            return many;
        }

        int depth() {
            int deepest = 0;
            for (Node part : parts) {
                deepest = Math.max(deepest, part.depth());
            }
            return deepest + 1;
        }

        int flex() {
            int bits = isFlex() ? 1 << letter - 'U' : 0;
            for (Node part : parts) {
                bits |= part.flex();
            }
            return bits;
        }

        @Override
        public String toString() {
            if (parts.isEmpty()) {
                return String.valueOf(letter);
            }
            return parts.size() == 1 ? letter + "(" + parts.get(0) + ")" : letter + "(" + parts.get(0) + "," + parts.get(1) + ")";
        }
    }

    private static final class Parser {
        private final String text;
        private int at = 0;
        private int nodes = 0;

        Parser(String text) {
            this.text = text;
        }

        List<Node[]> equations() {
            List<Node[]> all = new ArrayList<>();
            while (peek() != -1) {
                if (all.size() == 4) {
                    throw new Fault(at);
                }
                Node left = term();
                expect('=');
                Node right = term();
                expect(';');
                all.add(new Node[] {left, right});
            }
            return all;
        }

        Node term() {
            int c = peek();
            int parts = c == -1 ? -1 : "abUX12".indexOf(c) >= 0 ? 0 : "fVY".indexOf(c) >= 0 ? 1 : "gWZ".indexOf(c) >= 0 ? 2 : -1;
            if (parts < 0 || c == '1' || c == '2' || nodes == 40) {
                throw new Fault(at);
            }
            nodes++;
            at++;
            Node node = new Node((char) c);
            for (int i = 0; i < parts; i++) {
                expect(i == 0 ? '(' : ',');
                node.parts.add(term());
            }
            if (parts > 0) {
                expect(')');
            }
            return node;
        }

        private void expect(char c) {
            if (peek() != c) {
                throw new Fault(at);
            }
            at++;
        }

        private int peek() {
            while (at < text.length() && text.charAt(at) == ' ') {
                at++;
            }
            return at < text.length() ? text.charAt(at) : -1;
        }
    }

    /** A BODY, made by its grammar; the order comes from its writing. */
    private static final class Body {
        private static final List<List<Body>> ORDERED = List.of(ordered(0), ordered(1), ordered(2));
        final Node node;
        final int size;
        final String writing;

        Body(Node node) {
            this.node = node;
            this.size = node.nodes();
            this.writing = node.toString();
        }

        static List<Body> forLetter(int x) {
            return ORDERED.get(x % 3);
        }

        private static List<Body> ordered(int parts) {
            List<Body> all = new ArrayList<>();
            for (int size = 1; size <= 6; size++) {
                for (Node node : made(parts, size)) {
                    all.add(new Body(node));
                }
            }
            all.sort(Comparator.<Body>comparingInt(b -> b.size).thenComparing(b -> b.writing));
            return all;
        }

        private static List<Node> made(int parts, int size) {
            List<Node> all = new ArrayList<>();
            if (size == 1) {
                for (char c : "ab12".substring(0, 2 + parts).toCharArray()) {
                    all.add(new Node(c));
                }
                return all;
            }
            for (Node part : made(parts, size - 1)) {
                Node node = new Node('f');
                node.parts.add(part);
                all.add(node);
            }
            for (int first = 1; first <= size - 2; first++) {
                for (Node one : made(parts, first)) {
                    for (Node two : made(parts, size - 1 - first)) {
                        Node node = new Node('g');
                        node.parts.add(one);
                        node.parts.add(two);
                        all.add(node);
                    }
                }
            }
            return all;
        }
    }

    private static final class Model {
        private static final Map<String, List<Body[]>> KNOWN = new HashMap<>();
        private static final int BAD = -2, NO = -3, FULL = -4;
        private final int[] refused = new int[3];
        private final StringBuilder text = new StringBuilder();
        private String equations = "";
        private final List<String> states = new ArrayList<>();

        private int refuse(int why) {
            refused[-2 - why]++;
            return why;
        }

        private List<Node[]> parsed() {
            return new Parser(equations).equations();
        }

        private static String written(List<Node[]> all) {
            StringBuilder out = new StringBuilder();
            for (Node[] one : all) {
                out.append(one[0]).append('=').append(one[1]).append(';');
            }
            return out.toString();
        }

        private void become(List<Node[]> all) {
            states.add(equations);
            if (states.size() > 5) {
                states.remove(0);
            }
            equations = written(all);
        }

        private boolean has(int e) {
            return e >= 0 && e < parsed().size();
        }

        int type(int c) {
            if (c < 0 || c > 127) {
                return refuse(BAD);
            }
            if (text.length() == 120) {
                return refuse(FULL);
            }
            text.append((char) c);
            return text.length();
        }

        int clear() {
            int had = text.length();
            text.setLength(0);
            return had;
        }

        int reads() {
            try {
                List<Node[]> all = new Parser(text.toString()).equations();
                become(all);
                return all.size();
            } catch (Fault fault) {
                return -10 - fault.place;
            }
        }

        int drops(int e) {
            if (!has(e)) {
                return refuse(BAD);
            }
            List<Node[]> all = parsed();
            all.remove(e);
            become(all);
            return all.size();
        }

        int turns(int e) {
            if (!has(e)) {
                return refuse(BAD);
            }
            List<Node[]> all = parsed();
            all.set(e, new Node[] {all.get(e)[1], all.get(e)[0]});
            become(all);
            return all.get(e)[0].nodes();
        }

        int of(int e, int side, int what) {
            if (!has(e) || side < 0 || side > 1 || what < 0 || what > 3) {
                return refuse(BAD);
            }
            Node node = parsed().get(e)[side];
            return new int[] {node.nodes(), node.flex(), node.depth(), node.letter}[what];
        }

        int shown(int e, int k) {
            if (!has(e) || k < -1) {
                return refuse(BAD);
            }
            String writing = parsed().get(e)[0] + "=" + parsed().get(e)[1];
            return k == -1 ? writing.length() : k < writing.length() ? writing.charAt(k) : -5;
        }

        private List<Node[]> takenApart() {
            List<Node[]> all = parsed();
            int i = 0;
            while (i < all.size()) {
                Node left = all.get(i)[0];
                Node right = all.get(i)[1];
                if (left.isFlex() || right.isFlex() || left.letter != right.letter) {
                    i++;
                    continue;
                }
                all.remove(i);
                for (int p = 0; p < left.parts.size(); p++) {
                    all.add(i + p, new Node[] {left.parts.get(p), right.parts.get(p)});
                }
            }
            return all;
        }

        private static int kind(Node[] pair) {
            int flex = (pair[0].isFlex() ? 1 : 0) + (pair[1].isFlex() ? 1 : 0);
            return flex + 1;
        }

        int pairs(int what) {
            if (what < 0 || what > 3) {
                return refuse(BAD);
            }
            int many = 0;
            for (Node[] pair : takenApart()) {
                many += what == 0 || kind(pair) == what ? 1 : 0;
            }
            return many;
        }

        int pair(int i, int what) {
            if (i < 0 || what < 0 || what > 5) {
                return refuse(BAD);
            }
            List<Node[]> all = takenApart();
            if (i >= all.size()) {
                return -5;
            }
            Node left = all.get(i)[0];
            Node right = all.get(i)[1];
            int kind = kind(all.get(i));
            int ways = kind == 2 ? 1 + (left.isFlex() ? left : right).parts.size() : 0;
            return new int[] {left.letter, right.letter, left.nodes(), right.nodes(), kind, ways}[what];
        }

        private int flex() {
            int bits = 0;
            for (Node[] one : parsed()) {
                bits |= one[0].flex() | one[1].flex();
            }
            return bits;
        }

        private List<Body[]> solved() {
            return KNOWN.computeIfAbsent(equations, key -> {
                List<Body[]> choices = new ArrayList<>();
                addChoices(choices, new Body[6], 0, 0);
                choices.sort(Model::compareChoices);
                List<Body[]> solutions = new ArrayList<>();
                List<Node[]> all = parsed();
                for (Body[] choice : choices) {
                    if (solutions.size() < 40 && solves(choice, all)) {
                        solutions.add(choice);
                    }
                }
                return solutions;
            });
        }

        private void addChoices(List<Body[]> choices, Body[] sofar, int x, int size) {
            if (x == 6) {
                choices.add(sofar.clone());
            } else if ((flex() >> x & 1) == 0) {
                addChoices(choices, sofar, x + 1, size);
            } else {
                for (Body body : Body.forLetter(x)) {
                    if (size + body.size <= 6) {
                        sofar[x] = body;
                        addChoices(choices, sofar, x + 1, size + body.size);
                    }
                }
                sofar[x] = null;
            }
        }

        private static int sizeOf(Body[] choice) {
            int size = 0;
            for (Body body : choice) {
                size += body == null ? 0 : body.size;
            }
            return size;
        }

        private static int compareChoices(Body[] one, Body[] two) {
            int order = Integer.compare(sizeOf(one), sizeOf(two));
            for (int x = 0; x < 6 && order == 0; x++) {
                if (one[x] != null) {
                    order = Integer.compare(one[x].size, two[x].size);
                    order = order != 0 ? order : one[x].writing.compareTo(two[x].writing);
                }
            }
            return order;
        }

        private static boolean solves(Body[] choice, List<Node[]> all) {
            for (Node[] one : all) {
                try {
                    if (!grown(choice, one[0]).equals(grown(choice, one[1]))) {
                        return false;
                    }
                } catch (TooLarge large) {
                    return false;
                }
            }
            return true;
        }

        private static String grown(Body[] choice, Node term) {
            StringBuilder out = new StringBuilder();
            grow(choice, term, out);
            return out.toString();
        }

        private static void grow(Body[] choice, Node term, StringBuilder out) {
            if (term.isFlex()) {
                growBody(choice, choice[term.letter - 'U'].node, term, out);
                return;
            }
            put(term.letter, out);
            for (Node part : term.parts) {
                grow(choice, part, out);
            }
        }

        private static void growBody(Body[] choice, Node body, Node term, StringBuilder out) {
            if (body.letter == '1' || body.letter == '2') {
                grow(choice, term.parts.get(body.letter - '1'), out);
                return;
            }
            put(body.letter, out);
            for (Node part : body.parts) {
                growBody(choice, part, term, out);
            }
        }

        private static void put(char letter, StringBuilder out) {
            if (out.length() == 200) {
                throw new TooLarge();
            }
            out.append(letter);
        }

        int solutions() {
            return solved().size();
        }

        int size(int i) {
            if (i < 0) {
                return refuse(BAD);
            }
            return i >= solutions() ? refuse(NO) : sizeOf(solved().get(i));
        }

        int body(int i, int x, int k) {
            if (i < 0 || x < 0 || x > 5 || k < -1) {
                return refuse(BAD);
            }
            if (i >= solutions()) {
                return refuse(NO);
            }
            Body body = solved().get(i)[x];
            if (body == null) {
                return -5;
            }
            return k == -1 ? body.size : k < body.writing.length() ? body.writing.charAt(k) : -5;
        }

        int becomes(int i, int e, int side, int k) {
            if (i < 0 || !has(e) || side < 0 || side > 1 || k < -1) {
                return refuse(BAD);
            }
            if (i >= solutions()) {
                return refuse(NO);
            }
            String grown = grown(solved().get(i), parsed().get(e)[side]);
            return k == -1 ? grown.length() : k < grown.length() ? grown.charAt(k) : -5;
        }

        int bodies(int x, int n) {
            if (x < 0 || x > 5 || n < 1 || n > 6) {
                return refuse(BAD);
            }
            int many = 0;
            for (Body body : Body.forLetter(x)) {
                many += body.size == n ? 1 : 0;
            }
            return many;
        }

        int back() {
            if (states.isEmpty()) {
                return refuse(NO);
            }
            equations = states.remove(states.size() - 1);
            return states.size();
        }

        int told(int what) {
            if (what < 0 || what > 7) {
                return refuse(BAD);
            }
            int nodes = 0;
            for (Node[] one : parsed()) {
                nodes += one[0].nodes() + one[1].nodes();
            }
            return new int[] {refused[0], refused[1], refused[2], text.length(), parsed().size(), nodes, flex(), states.size()}[what];
        }

        long digest() {
            long h = 2473;
            for (int what = 0; what < 8; what++) {
                h = 31 * h + told(what);
            }
            for (int e = 0; e < parsed().size(); e++) {
                for (int side = 0; side < 2; side++) {
                    for (int what = 0; what < 4; what++) {
                        h = 31 * h + of(e, side, what);
                    }
                }
            }
            for (int what = 0; what < 4; what++) {
                h = 31 * h + pairs(what);
            }
            h = 31 * h + solutions();
            for (Body[] choice : solved()) {
                h = 31 * h + sizeOf(choice);
                for (Body body : choice) {
                    for (int k = 0; body != null && k < body.writing.length(); k++) {
                        h = 31 * h + body.writing.charAt(k);
                    }
                }
            }
            return h;
        }
    }
}
