import java.io.IOException;
import java.lang.management.ManagementFactory;
import java.lang.management.ThreadMXBean;
import java.lang.reflect.Constructor;
import java.lang.reflect.Field;
import java.lang.reflect.Method;
import java.lang.reflect.Modifier;
import java.nio.file.Files;
import java.nio.file.Path;
import java.util.Arrays;
import java.util.List;
import java.util.Set;
import java.util.TreeSet;
import java.util.regex.Matcher;
import java.util.regex.Pattern;

/** The document's face, and those rules of the language page that the class or its source shows. */
public final class LanguageTest {
    private static final Path SOURCE = Path.of("src/main/java/FlexTerms.java");
    private static final List<String> FACE = List.of("int type(int)", "int clear()", "int reads()", "int drops(int)",
        "int turns(int)", "int of(int,int,int)", "int shown(int,int)", "int pairs(int)", "int pair(int,int)",
        "int solutions()", "int size(int)", "int body(int,int,int)", "int becomes(int,int,int,int)",
        "int bodies(int,int)", "int back()", "int told(int)", "long digest()");
    private static final List<String> SECTIONS = List.of("---- equations", "type", "clear", "reads", "drops", "turns", "of", "shown",
        "---- pairs", "pairs", "pair", "---- solutions", "solutions", "size", "body", "becomes", "bodies",
        "---- what there is", "back", "told", "digest");
    private static final int MOST_CLASSES = 12;
    private static final int MOST_FIELDS = 20;
    private static final int MOST_PARAMETERS = 7;
    /** A small part of the room of a run, some 7.3 million fields and elements. */
    private static final long MOST_BYTES = 400_000;
    private static int wrong = 0;

    public static void main(String[] args) throws IOException {
        faceIsTheDocuments();
        classesInsideAreSmall();
        sectionsAreTheDocuments(Files.readString(SOURCE));
        sourceKeepsToTheRules(withoutComments(Files.readString(SOURCE)));
        runStaysSmall();
        System.out.println(wrong == 0 ? "the rules are kept" : wrong + " rules are broken");
        if (wrong != 0) {
            System.exit(1);
        }
    }

    private static void must(boolean holds, String what) {
        if (!holds) {
            wrong++;
            System.out.println(what);
        }
    }

    private static String signature(Method method) {
        StringBuilder out = new StringBuilder(method.getReturnType().getName()).append(' ').append(method.getName()).append('(');
        for (Class<?> type : method.getParameterTypes()) {
            out.append(out.charAt(out.length() - 1) == '(' ? "" : ",").append(type.getName());
        }
        return out.append(')').toString();
    }

    private static void faceIsTheDocuments() {
        Set<String> open = new TreeSet<>();
        for (Method method : FlexTerms.class.getDeclaredMethods()) {
            if (!Modifier.isPrivate(method.getModifiers())) {
                open.add(signature(method));
                must(method.getModifiers() == Modifier.PUBLIC, method + " is not plainly public");
            }
        }
        must(open.equals(new TreeSet<>(FACE)), "rule 1: the face is " + open);
        Set<String> constants = new TreeSet<>();
        for (Field field : FlexTerms.class.getDeclaredFields()) {
            if (!Modifier.isPrivate(field.getModifiers())) {
                constants.add(field.getName());
                must(field.getModifiers() == (Modifier.PUBLIC | Modifier.STATIC | Modifier.FINAL), "rule 1: " + field);
            }
        }
        must(constants.equals(Set.of("NONE", "BAD", "NO", "FULL")), "rule 1: the constants are " + constants);
        Constructor<?>[] constructors = FlexTerms.class.getDeclaredConstructors();
        must(constructors.length == 1 && Modifier.isPublic(constructors[0].getModifiers()), "rule 1: the constructor");
        must(Modifier.isFinal(FlexTerms.class.getModifiers()), "rule 1: the class is not final");
    }

    /** "Ahead of the calls .. the interface says" these. */
    private static void sectionsAreTheDocuments(String source) {
        Matcher lines = Pattern.compile("// (---- .*)|^    public (?:int|long) (\\w+)\\(", Pattern.MULTILINE).matcher(source);
        StringBuilder found = new StringBuilder();
        while (lines.find()) {
            found.append(lines.group(1) != null ? lines.group(1) : lines.group(2)).append('\n');
        }
        must(found.toString().equals(String.join("\n", SECTIONS) + "\n"), "the calls stand in this order: " + found);
    }

    private static void classesInsideAreSmall() {
        Class<?>[] inside = FlexTerms.class.getDeclaredClasses();
        must(inside.length + 1 <= MOST_CLASSES, "rule 11: " + inside.length + " classes inside");
        for (Class<?> one : inside) {
            must(Modifier.isStatic(one.getModifiers()), "rule 2: " + one + " is not static");
            must(!Modifier.isPublic(one.getModifiers()), "rule 1: " + one + " is public");
            checkMembers(one);
        }
        checkMembers(FlexTerms.class);
    }

    private static void checkMembers(Class<?> one) {
        long changing = Arrays.stream(one.getDeclaredFields()).filter(f -> !Modifier.isStatic(f.getModifiers())).count();
        must(changing <= MOST_FIELDS, "rule 11: " + one + " has " + changing + " fields");
        for (Field field : one.getDeclaredFields()) {
            must(!Modifier.isStatic(field.getModifiers()) || Modifier.isFinal(field.getModifiers()), "rule 5: " + field);
        }
        for (Method method : one.getDeclaredMethods()) {
            must(method.getParameterCount() <= MOST_PARAMETERS, "rule 11: " + method);
            must(one == FlexTerms.class && Modifier.isPublic(method.getModifiers()) || !isOfTheFace(method.getName()),
                "rule 1: " + method + " bears the name of a public one");
        }
    }

    private static boolean isOfTheFace(String name) {
        return FACE.stream().anyMatch(signature -> signature.contains(" " + name + "("));
    }

    private static String withoutComments(String source) {
        return source.replaceAll("(?s)/\\*.*?\\*/", "").replaceAll("//[^\n]*", "");
    }

    private static void sourceKeepsToTheRules(String source) {
        String[] strange = {"\\bthrow\\b", "\\bthrows\\b", "\\btry\\b", "\\bcatch\\b", "\\bfinally\\b", "\\bsynchronized\\b", "\\bassert\\b",
            "->", "::", "\\bpackage\\b", "\\bhashCode\\b", "\\btoString\\b", "\\bRandom\\b", "\\bThread\\b", "Exact\\b",
            "\\bnanoTime\\b", "\\bcurrentTimeMillis\\b", "\\bObject\\b", "\\bvar\\b", "\\[\\]\\[\\]\\[\\]", "static\\s*\\{"};
        for (String word : strange) {
            must(!Pattern.compile(word).matcher(source).find(), "the source has " + word);
        }
        Matcher imports = Pattern.compile("import ([^;]*);").matcher(source);
        while (imports.find()) {
            must(imports.group(1).equals("java.util.Arrays"), "rule 4: import " + imports.group(1));
        }
        Matcher library = Pattern.compile("\\b(System|Math|Integer|Long|Arrays)\\.(\\w+)").matcher(source);
        Set<String> allowed = Set.of("System.arraycopy", "Math.min", "Math.max", "Arrays.copyOfRange");
        while (library.find()) {
            must(allowed.contains(library.group()), "rule 4: " + library.group());
        }
        methodsAreShort(source);
    }

    private static void runStaysSmall() {
        ThreadMXBean threads = ManagementFactory.getThreadMXBean();
        if (!(threads instanceof com.sun.management.ThreadMXBean)) {
            System.out.println("this Java does not tell what a thread makes: the room of a run was not measured");
            return;
        }
        com.sun.management.ThreadMXBean counting = (com.sun.management.ThreadMXBean) threads;
        long self = Thread.currentThread().getId();
        // The first run loads the classes, which is not counted.
        dearRun();
        long before = counting.getThreadAllocatedBytes(self);
        dearRun();
        long made = counting.getThreadAllocatedBytes(self) - before;
        must(made <= MOST_BYTES, "rule 12: a run of 512 calls makes " + made + " bytes");
    }

    /** 512 calls, most of them those that look for SOLUTIONS anew or make something. */
    private static void dearRun() {
        FlexTerms x = new FlexTerms();
        String text = "W(V(V(a)),U)=W(V(V(a)),X);";
        for (int i = 0; i < text.length(); i++) {
            x.type(text.charAt(i));
        }
        for (int calls = text.length() + 6; calls <= 512; calls += 6) {
            x.reads();
            x.turns(0);
            x.digest();
            x.becomes(x.solutions() - 1, 0, 0, 1);
            x.shown(0, 5);
        }
    }

    private static void methodsAreShort(String source) {
        String[] lines = source.split("\n");
        for (int i = 0; i < lines.length; i++) {
            Matcher head = Pattern.compile("^( +)[\\w\\[\\] ]+\\([^;]*\\) \\{$").matcher(lines[i]);
            if (head.find() && !lines[i].matches(" *(if|for|while|switch|else|do)\\b.*")) {
                int end = i;
                while (end < lines.length && !lines[end].equals(head.group(1) + "}")) {
                    end++;
                }
                must(end - i <= 60, "rule 11: a method of " + (end - i) + " lines: " + lines[i].trim());
            }
        }
    }
}
