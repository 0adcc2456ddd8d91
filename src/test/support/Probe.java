import java.util.function.Consumer;
import java.util.function.ToIntFunction;

/** A FlexTerms under test. It counts the calls, as what an object answers after 512 of them is free. */
final class Probe {
    static final int NONE = -1, BAD = -2, NO = -3, FULL = -4, NOT_SO_MANY = -5;
    static final int U = 0, V = 1, W = 2, X = 3, Y = 4, Z = 5;
    private static final int MOST_CALLS = 512;

    private final FlexTerms terms = new FlexTerms();
    private int calls;

    /** One that has read a text. */
    static Probe with(String text) {
        Probe x = new Probe();
        if (x.tell(text) < 0) {
            Cases.fail(text + " could not be read");
        }
        return x;
    }

    /**
     * The call must be refused in this way. A twin that is not asked shows what may not have changed,
     * so that THE TEXT and the STATES can be looked at, too, though looking at them changes them.
     */
    static void refused(String call, int why, Consumer<Probe> made, ToIntFunction<Probe> asked) {
        Probe one = new Probe();
        Probe twin = new Probe();
        made.accept(one);
        made.accept(twin);
        Cases.due(call, asked.applyAsInt(one), why);
        for (int what = 0; what < 3; what++) {
            int more = what == BAD - why ? 1 : 0;
            Cases.due(call + ", then told " + what, one.told(what), twin.told(what) + more);
        }
        Cases.due(call + ", then all there is", one.everything(), twin.everything());
    }

    /** The call must answer so, be no refusal, and change nothing at all. */
    static void answers(String call, int want, Consumer<Probe> made, ToIntFunction<Probe> asked) {
        Probe one = new Probe();
        Probe twin = new Probe();
        made.accept(one);
        made.accept(twin);
        Cases.due(call, asked.applyAsInt(one), want);
        for (int what = 0; what < 3; what++) {
            Cases.due(call + ", then told " + what, one.told(what), twin.told(what));
        }
        Cases.due(call + ", then all there is", one.everything(), twin.everything());
    }

    private FlexTerms next() {
        calls++;
        if (calls == MOST_CALLS + 1) {
            Cases.fail("the test makes more than 512 calls on one object");
        }
        return terms;
    }

    int calls() {
        return calls;
    }

    int type(int c) {
        return next().type(c);
    }

    int clear() {
        return next().clear();
    }

    int reads() {
        return next().reads();
    }

    int drops(int e) {
        return next().drops(e);
    }

    int turns(int e) {
        return next().turns(e);
    }

    int of(int e, int side, int what) {
        return next().of(e, side, what);
    }

    int shown(int e, int k) {
        return next().shown(e, k);
    }

    int pairs(int what) {
        return next().pairs(what);
    }

    int pair(int i, int what) {
        return next().pair(i, what);
    }

    int solutions() {
        return next().solutions();
    }

    int size(int i) {
        return next().size(i);
    }

    int body(int i, int x, int k) {
        return next().body(i, x, k);
    }

    int becomes(int i, int e, int side, int k) {
        return next().becomes(i, e, side, k);
    }

    int bodies(int x, int n) {
        return next().bodies(x, n);
    }

    int back() {
        return next().back();
    }

    int told(int what) {
        return next().told(what);
    }

    long digest() {
        return next().digest();
    }

    void types(String text) {
        for (int i = 0; i < text.length(); i++) {
            type(text.charAt(i));
        }
    }

    int tell(String text) {
        clear();
        types(text);
        return reads();
    }

    String equations() {
        StringBuilder out = new StringBuilder();
        int many = told(4);
        for (int e = 0; e < many; e++) {
            int length = shown(e, NONE);
            for (int k = 0; k < length; k++) {
                out.append((char) shown(e, k));
            }
            out.append(';');
        }
        return out.toString();
    }

    String bodyText(int i, int x) {
        StringBuilder out = new StringBuilder();
        for (int c = body(i, x, 0); c > 0; c = body(i, x, out.length())) {
            out.append((char) c);
        }
        return out.toString();
    }

    String grown(int i, int e, int side) {
        StringBuilder out = new StringBuilder();
        int length = becomes(i, e, side, NONE);
        for (int k = 0; k < length; k++) {
            out.append((char) becomes(i, e, side, k));
        }
        return out.toString();
    }

    /** The BODIES of a SOLUTION, letter by letter: "U=f(a) X=a". */
    String solution(int i) {
        StringBuilder out = new StringBuilder();
        for (int x = U; x <= Z; x++) {
            String body = bodyText(i, x);
            if (!body.isEmpty()) {
                out.append(out.length() == 0 ? "" : " ").append((char) ('U' + x)).append('=').append(body);
            }
        }
        return out.toString();
    }

    /** All that can be asked for but how often was refused. It is used up by this. */
    String everything() {
        StringBuilder out = new StringBuilder();
        for (int what = 3; what < 8; what++) {
            out.append(told(what)).append(' ');
        }
        out.append(allOfNow());
        while (calls < MOST_CALLS && back() != NO) {
            out.append(" back ").append(allOfNow());
        }
        return out.append(" read ").append(reads()).append(' ').append(equations()).toString();
    }

    private String allOfNow() {
        StringBuilder out = new StringBuilder(equations());
        for (int what = 0; what < 4; what++) {
            out.append(' ').append(pairs(what));
        }
        int many = solutions();
        out.append(' ').append(many);
        return many > 0 ? out.append(' ').append(solution(many - 1)).toString() : out.toString();
    }
}
