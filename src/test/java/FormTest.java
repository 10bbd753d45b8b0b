import java.io.IOException;
import java.lang.reflect.Constructor;
import java.lang.reflect.Field;
import java.lang.reflect.Method;
import java.lang.reflect.Modifier;
import java.nio.file.Files;
import java.nio.file.Path;
import java.util.Arrays;
import java.util.Map;
import java.util.Set;
import java.util.TreeMap;
import java.util.TreeSet;
import java.util.regex.Matcher;
import java.util.regex.Pattern;

/** The face that the document tells, and those rules of LANGUAGE.md that can be looked up. Runs in the project's directory. */
public final class FormTest {
    private static final String[] FACE = {
        "int row(int,int,int)", "int set(int,int,long)", "int copy(int,int,int,int,int)", "long element(int,int)",
        "int holds(int)", "int show(int,int)", "int says(int,int)", "int side(int)", "int bog(int,boolean)",
        "int home(int)", "int post(int,int,int)", "int walker(int,int)", "int sure(int,int)", "int feed(int)",
        "int wipe()", "int fen()", "int postOf(int,int)", "int walkerOf(int,int)", "int isBog(int)",
        "int way(int,int)", "int arm(int,int)", "int where(int,int,int)", "int of(int,int,int)",
        "int kinds(int,int)", "int apart(int)", "int fewest(int)", "int more()", "int armed(int,int)",
        "int alike(int)", "int right(int)", "int pointing(int)", "int trembling()", "int bestPair()",
        "int idlest()", "int leads(int,int)", "int reach(int,int)", "int open(int)", "int parts()",
        "int worst(int)", "int path(int,int)", "int found()", "int meet()", "int judge(int,int,int)",
        "int nears(int,int,int)", "int done(int,int,int)", "int goes(int,int)", "int days(int)", "int seed(int)",
        "int image()", "int back()", "int status(int)"};
    private static final String[] RULED_OUT = {
        "\\bthrow\\b", "\\bthrows\\b", "\\btry\\b", "\\bcatch\\b", "\\bsynchronized\\b", "\\bassert\\b", "->", "::",
        "\\bpackage\\b", "\\bstatic\\s*\\{", "\\bprotected\\b", "\\binstanceof\\b", "\\bvar\\b", "Exact\\b",
        "\\bSystem\\.(?!arraycopy)", "\\bThread\\b", "\\bRandom\\b", "\\bhashCode\\b", "\\btoString\\b", "\\.equals\\b"};

    private static final Set<String> LIBRARY = Set.of("Arrays.fill", "System.arraycopy", "Integer.bitCount", "Math.max",
        "Math.min", "Math.abs");
    private static final Set<String> KEYWORDS = Set.of("if", "for", "while", "switch", "return");
    private static final int DEEPEST = 8;

    public static void main(String[] args) throws IOException {
        face();
        String text = Files.readString(Path.of("src/main/java/PointAtWhoIsLost.java"));
        Due.due("signs beyond 127", text.chars().filter(c -> c > 127).count(), 0);
        String code = text.replaceAll("(?s)/\\*.*?\\*/", " ").replaceAll("//[^\n]*", " ").replaceAll("\"[^\"]*\"", "\"\"");
        for (String pattern : RULED_OUT) {
            Due.due("found in the text: " + pattern, found(code, pattern), 0);
        }
        Due.due("imports", found(code, "\\bimport\\b"), found(code, "\\bimport java\\.util\\.Arrays;"));
        Due.due("classes, twelve at most", found(code, "\\b(class|interface|enum|record)\\s") <= 12 ? 1 : 0, 1);
        nested();
        lengths(text);
        library(code);
        calls(code);
        Due.end();
    }

    private static void face() {
        Class<?> it = PointAtWhoIsLost.class;
        Due.due("public and final", it.getModifiers(), Modifier.PUBLIC | Modifier.FINAL);
        Set<String> seen = new TreeSet<>();
        Set<String> names = new TreeSet<>();
        for (Method method : it.getDeclaredMethods()) {
            if (method.isSynthetic() || Modifier.isPrivate(method.getModifiers())) {
                continue;
            }
            Due.due("modifiers of " + method.getName(), method.getModifiers(), Modifier.PUBLIC);
            String parameters = Arrays.toString(Arrays.stream(method.getParameterTypes()).map(Class::getName).toArray());
            String inside = parameters.substring(1, parameters.length() - 1).replace(" ", "");
            seen.add(method.getReturnType().getName() + " " + method.getName() + "(" + inside + ")");
            names.add(method.getName());
        }
        Set<String> due = new TreeSet<>(Arrays.asList(FACE));
        Due.due("the face: " + seen, seen.equals(due) ? 1 : 0, 1);
        for (Method method : it.getDeclaredMethods()) {
            boolean hidden = Modifier.isPrivate(method.getModifiers());
            Due.due("a private method with a public name: " + method.getName(), hidden && names.contains(method.getName()) ? 1 : 0, 0);
        }
        Constructor<?>[] constructors = it.getDeclaredConstructors();
        Due.due("constructors", constructors.length, 1);
        Due.due("parameters of the constructor", constructors[0].getParameterCount(), 0);
        int variables = 0;
        for (Field field : it.getDeclaredFields()) {
            boolean isNone = field.getName().equals("NONE");
            int hidden = field.getModifiers() & Modifier.PRIVATE;
            Due.due("hidden: " + field.getName(), hidden, isNone ? 0 : Modifier.PRIVATE);
            boolean isStatic = Modifier.isStatic(field.getModifiers());
            Due.due("static and not final: " + field.getName(), isStatic && !Modifier.isFinal(field.getModifiers()) ? 1 : 0, 0);
            variables += isStatic ? 0 : 1;
        }
        Due.due("fields, twenty at most", variables <= 20 ? 1 : 0, 1);
    }

    private static void nested() {
        Set<String> names = new TreeSet<>();
        for (String line : FACE) {
            names.add(line.substring(line.indexOf(' ') + 1, line.indexOf('(')));
        }
        for (Class<?> inside : PointAtWhoIsLost.class.getDeclaredClasses()) {
            Due.due("static: " + inside, inside.getModifiers() & Modifier.STATIC, Modifier.STATIC);
            Due.due("not public: " + inside, inside.getModifiers() & (Modifier.PUBLIC | Modifier.PROTECTED), 0);
            Due.due("fields, twenty at most: " + inside, inside.getDeclaredFields().length <= 20 ? 1 : 0, 1);
            for (Method method : inside.getDeclaredMethods()) {
                Due.due("a public name inside: " + method.getName(), names.contains(method.getName()) ? 1 : 0, 0);
                Due.due("parameters of " + method.getName(), method.getParameterCount() <= 7 ? 1 : 0, 1);
            }
        }
    }

    private static void lengths(String text) {
        int since = 0;
        int number = 0;
        for (String line : text.split("\n")) {
            number++;
            if (line.matches(" {4,8}\\S.*\\{") && line.contains("(")) {
                since = number;
            }
            if (line.matches(" {4}( {4})?\\}") && since > 0) {
                Due.due("lines of the method at " + since, number - since <= 60 ? 1 : 0, 1);
                since = 0;
            }
        }
    }

    /** Rules 4, 5, 6 and 12: what of the library is used, that no call makes an object, that casts are of numbers alone. */
    private static void library(String code) {
        Matcher used = Pattern.compile("\\b([A-Z]\\w*[a-z]\\w*)\\.(\\w+)").matcher(code.replaceAll("import [^;]*;", ""));
        while (used.find()) {
            Due.due("of the library: " + used.group(), LIBRARY.contains(used.group()) ? 1 : 0, 1);
        }
        for (String line : code.split("\n")) {
            boolean isField = line.matches(" {4}( {4})?(private )?(static )?final .* = .*;");
            Due.due("makes an object in a call: " + line, found(line, "\\bnew\\b") > 0 && !isField ? 1 : 0, 0);
        }
        Due.due("casts of other things than numbers", found(code, "\\([A-Z]\\w*(\\[\\])*\\)\\s*[\\w(]"), 0);
        Due.due("static fields that aren't final", found(code, "(?m)^ +(private )?static (?!final)[\\w\\[\\]]+ \\w+( =|;)"), 0);
        Due.due("whole numbers and truth alone", found(code, "\\b(double|float|Object|List|ArrayList)\\b"), 0);
    }

    /** Rules 8 and 11: no method calls itself, not by others either, and calls go at most eight deep. */
    private static void calls(String code) {
        Map<String, Set<String>> called = new TreeMap<>();
        Matcher method = Pattern.compile("(?m)^ {4}( {4})?([a-z]+ )*[\\w\\[\\]]+ (\\w+)\\([^)]*\\) \\{").matcher(code);
        while (method.find()) {
            Set<String> names = called.computeIfAbsent(method.group(3), key -> new TreeSet<>());
            Matcher call = Pattern.compile("\\b(\\w+)\\(").matcher(body(code, method.end()));
            while (call.find()) {
                names.add(call.group(1));
            }
        }
        Due.due("methods are found", called.size() > FACE.length ? 1 : 0, 1);
        for (String name : called.keySet()) {
            Due.due("calls from " + name + " go eight deep at most", depth(called, name, 0) <= DEEPEST ? 1 : 0, 1);
        }
    }

    private static String body(String code, int from) {
        int end = from;
        for (int open = 1; open > 0; end++) {
            open += code.charAt(end) == '{' ? 1 : code.charAt(end) == '}' ? -1 : 0;
        }
        return code.substring(from, end);
    }

    /** How deep calls from a method go, itself too; more than there may be, if they come back to it. */
    private static int depth(Map<String, Set<String>> called, String name, int open) {
        int most = 0;
        if (called.containsKey(name) && open <= DEEPEST) {
            for (String next : called.get(name)) {
                most = Math.max(most, KEYWORDS.contains(next) ? 0 : depth(called, next, open + 1));
            }
        }
        return most + 1;
    }

    private static int found(String text, String pattern) {
        Matcher matcher = Pattern.compile(pattern).matcher(text);
        int count = 0;
        while (matcher.find()) {
            count++;
        }
        return count;
    }
}
