import java.io.IOException;
import java.lang.reflect.Constructor;
import java.lang.reflect.Field;
import java.lang.reflect.Method;
import java.lang.reflect.Modifier;
import java.nio.file.Files;
import java.nio.file.Path;
import java.util.Arrays;
import java.util.HashMap;
import java.util.HashSet;
import java.util.Map;
import java.util.Set;
import java.util.TreeSet;
import java.util.regex.Matcher;
import java.util.regex.Pattern;

/** The rules of LANGUAGE.md that can be seen from the class or from its words. Run from the project's root. */
public final class LanguageTest {
    private static final Set<String> FACE = Set.of(
        "int put(int)", "int repeat(int,int)", "void erase()", "int send()", "int receive()",
        "int at(int)", "int length()", "int blocks()", "int find(int,int)", "void edit()");
    private static final Set<String> NUMBERS = Set.of("int", "long", "short", "byte", "char", "boolean");
    private static final String[] WORDS = {
        "import", "package", "throw", "throws", "try", "catch", "finally", "synchronized", "assert",
        "instanceof", "null", "float", "double", "String", "Math", "Integer", "System", "Arrays",
        "interface", "enum", "record", "protected", "getClass", "equals", "hashCode", "toString", "clone",
    };

    /** Its indent, its counter and its body, up to the brace that stands under the for. */
    private static final Pattern COUNTING_LOOP = Pattern.compile(
        "(?s)\n( *)for \\(int (\\w+) = [^;]+; \\2 <=? \\w+; \\2\\+\\+\\) \\{\n(.*?)\n\\1}");

    /** Its name and its body, up to the brace that stands under its head. */
    private static final Pattern METHOD = Pattern.compile(
        "(?s)\n    (?:public|private) (?:static )?\\w+ (\\w+)\\([^)]*\\) \\{\n(.*?)\n    }");
    private static final int MOST_LINES = 60;
    private static final int MOST_DEPTH = 6;

    private LanguageTest() {
    }

    public static void main(String[] args) throws IOException {
        members();
        fields();
        methods();
        words();
        loops();
        calls();
        Check.end();
    }

    private static void members() {
        Class<?> it = SqueezeQueue.class;
        Check.that("public and final", Modifier.isPublic(it.getModifiers()) && Modifier.isFinal(it.getModifiers()));
        Check.due("nested classes", it.getDeclaredClasses().length, 0);
        Constructor<?>[] made = it.getDeclaredConstructors();
        Check.that("one public constructor without arguments",
            made.length == 1 && made[0].getParameterCount() == 0 && Modifier.isPublic(made[0].getModifiers()));
    }

    private static void fields() {
        Field[] all = SqueezeQueue.class.getDeclaredFields();
        int beside = 0;
        for (Field field : all) {
            int modifiers = field.getModifiers();
            String type = field.getType().getSimpleName();
            Check.that(field + " is private", Modifier.isPrivate(modifiers));
            if (Modifier.isStatic(modifiers)) {
                Check.that(field + " is a constant", Modifier.isFinal(modifiers) && Set.of("int", "long").contains(type));
            } else {
                beside++;
                Check.that(field + " is of numbers", NUMBERS.contains(type.replaceFirst("\\[]$", "")));
            }
        }
        Check.that("at most forty fields", beside <= 40);
    }

    private static void methods() {
        Set<String> seen = new TreeSet<>();
        Set<String> names = new HashSet<>();
        for (Method method : SqueezeQueue.class.getDeclaredMethods()) {
            String types = Arrays.toString(method.getParameterTypes()).replaceAll("[\\[\\] ]", "");
            Check.that(method + " has at most seven parameters", method.getParameterCount() <= 7);
            Check.that(method + " answers no array", !method.getReturnType().isArray());
            Check.that(method + " has a name of its own", names.add(method.getName()));
            if (Modifier.isPublic(method.getModifiers())) {
                seen.add(method.getReturnType() + " " + method.getName() + "(" + types + ")");
            } else {
                Check.that(method + " is private", Modifier.isPrivate(method.getModifiers()));
            }
        }
        Check.that("the public methods are those of the document: " + seen, seen.equals(FACE));
    }

    private static String code() throws IOException {
        String source = Files.readString(Path.of("src/main/java/SqueezeQueue.java"));
        return source.replaceAll("(?s)/\\*.*?\\*/", "").replaceAll("//[^\n]*", "");
    }

    private static void words() throws IOException {
        String code = code();
        for (String word : WORDS) {
            Check.that("no " + word, !Pattern.compile("\\b" + word + "\\b").matcher(code).find());
        }
        Check.that("no lambda, method reference or static initialiser",
            !code.contains("->") && !code.contains("::") && !code.matches("(?s).*\\bstatic\\s*\\{.*"));
        Check.that("new stands in the fields' initialisers alone",
            code.lastIndexOf("new ") < code.indexOf("public SqueezeQueue()"));
    }

    /** Rules 7 and 8: every loop counts up by one to a bound, and nothing in it turns the counter back. */
    private static void loops() throws IOException {
        String code = code();
        Check.that("no while and no do", !Pattern.compile("\\b(while|do)\\b").matcher(code).find());
        int all = 0;
        Matcher heads = Pattern.compile("\\bfor\\b").matcher(code);
        while (heads.find()) {
            all++;
        }
        int counting = 0;
        Matcher loops = COUNTING_LOOP.matcher(code);
        for (int from = 0; loops.find(from); from = loops.end(2)) {
            counting++;
            Pattern changed = Pattern.compile("\\b" + loops.group(2) + "(\\+\\+|--|\\s*[-+*/%&|^]?=[^=])");
            Check.that("the counter stays in: " + loops.group(), !changed.matcher(loops.group(3)).find());
        }
        Check.due("loops that count to a bound", counting, all);
    }

    /** Rules 8 and 10: no recursion, calls at most six deep, none among another's arguments, short methods. */
    private static void calls() throws IOException {
        Map<String, String> bodies = new HashMap<>();
        Matcher methods = METHOD.matcher(code());
        while (methods.find()) {
            bodies.put(methods.group(1), methods.group(2));
        }
        Check.due("methods read", bodies.size(), SqueezeQueue.class.getDeclaredMethods().length);
        for (String name : bodies.keySet()) {
            String body = bodies.get(name);
            Check.that(name + " is short", body.lines().count() <= MOST_LINES);
            Check.that(name + " has no call inside a call", !callInsideCall(body));
            Check.that(name + " goes at most " + MOST_DEPTH + " deep", depth(name, bodies, 1) <= MOST_DEPTH);
        }
    }

    /** A bracket right behind a word is a call's: if, for and switch have a space before theirs. */
    private static boolean callInsideCall(String body) {
        int open = 0;
        int callBegan = -1;
        for (int i = 1; i < body.length(); i++) {
            char c = body.charAt(i);
            if (c == '(') {
                open++;
                boolean call = Character.isJavaIdentifierPart(body.charAt(i - 1));
                if (call && callBegan >= 0) {
                    return true;
                }
                callBegan = call ? open : callBegan;
            } else if (c == ')') {
                callBegan = open == callBegan ? -1 : callBegan;
                open--;
            }
        }
        return false;
    }

    /** Recursion shows itself as a depth that goes on past the most. */
    private static int depth(String name, Map<String, String> bodies, int reached) {
        int deepest = reached;
        Matcher called = Pattern.compile("\\b(\\w+)\\(").matcher(bodies.get(name));
        while (reached <= MOST_DEPTH && called.find()) {
            if (bodies.containsKey(called.group(1))) {
                deepest = Math.max(deepest, depth(called.group(1), bodies, reached + 1));
            }
        }
        return deepest;
    }
}
