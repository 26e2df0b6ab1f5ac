import java.io.IOException;
import java.lang.reflect.Constructor;
import java.lang.reflect.Field;
import java.lang.reflect.Method;
import java.lang.reflect.Modifier;
import java.nio.file.Files;
import java.nio.file.Path;
import java.util.ArrayDeque;
import java.util.Arrays;
import java.util.Deque;
import java.util.Map;
import java.util.Set;
import java.util.TreeMap;
import java.util.TreeSet;
import java.util.regex.Matcher;
import java.util.regex.Pattern;
import java.util.stream.Collectors;

/** The public face, and the rules of LANGUAGE.md that can be read from the class or its text. */
public final class LanguageTest {
    private static final Path SOURCE = Path.of("src/main/java/HullSuite.java");
    private static final Set<String> FACE = Set.of(
        "public int add(int)", "public int remove(int)", "public int points()",
        "public int corners(int)", "public int corner(int,int)", "public boolean agree(int,int)",
        "public int area(int)", "public int border()", "public int holds(int)", "public int farthest()",
        "public int extreme(int,int)", "public int triangle()", "public int layer(int)",
        "public int tangent(int)", "public int places()");
    private static final Set<String> TYPES = Set.of("int", "long", "short", "byte", "char", "boolean",
        "int[]", "long[]", "short[]", "byte[]", "char[]", "boolean[]");
    private static final Pattern FORBIDDEN = Pattern.compile("\\b(import|package|float|double|String|Math|Integer"
        + "|System|Arrays|null|throw|throws|try|catch|finally|synchronized|assert|instanceof|enum|interface|record"
        + "|var|super|protected)\\b|->|::|\"");
    private static final Pattern METHOD =
        Pattern.compile("(?m)^    (?:public|private) (?:static )?[\\w\\[\\]]+ (\\w+)\\([^)]*\\) \\{$");
    private static final Pattern CALL = Pattern.compile("\\b(\\w+)\\(");
    private static final Set<String> NO_CALLS = Set.of("if", "for", "while", "switch", "return");

    private LanguageTest() {
    }

    public static void main(String[] args) throws IOException {
        String code = Files.readString(SOURCE)
            .replaceAll("(?s)/\\*.*?\\*/", "")
            .replaceAll("//[^\n]*", "");
        publicFace();
        members();
        words(code);
        Map<String, String> bodies = bodies(code);
        bodies.forEach(LanguageTest::shortAndPlain);
        bodies.keySet().forEach(name -> depth(name, bodies, new ArrayDeque<>()));
        Due.finish();
    }

    private static void publicFace() {
        Class<?> type = HullSuite.class;
        Due.is("class is public and final", type.getModifiers(), Modifier.PUBLIC | Modifier.FINAL);
        Due.is("class extends Object", type.getSuperclass() == Object.class, true);
        Due.is("interfaces", type.getInterfaces().length, 0);
        Due.is("nested classes", type.getDeclaredClasses().length, 0);
        Set<String> found = Arrays.stream(type.getDeclaredMethods())
            .filter(method -> !Modifier.isPrivate(method.getModifiers()))
            .map(method -> method.toGenericString().replace("HullSuite.", "").replace(", ", ","))
            .collect(Collectors.toCollection(TreeSet::new));
        Due.is("the methods are those of the document, but found " + found, found.equals(FACE), true);
        Constructor<?>[] constructors = type.getDeclaredConstructors();
        Due.is("constructors", constructors.length, 1);
        Due.is("constructor is public", constructors[0].getModifiers(), Modifier.PUBLIC);
        Due.is("constructor takes nothing", constructors[0].getParameterCount(), 0);
    }

    private static void members() {
        int held = 0;
        for (Field field : HullSuite.class.getDeclaredFields()) {
            int modifiers = field.getModifiers();
            String name = field.getName();
            boolean ofFace = name.equals("BAD") || name.equals("FULL");
            Due.is(name + " is private", !Modifier.isPrivate(modifiers), ofFace);
            Due.is(name + " has a plain type", TYPES.contains(field.getType().getSimpleName()), true);
            if (Modifier.isStatic(modifiers)) {
                Due.is(name + " is a constant", Modifier.isFinal(modifiers) && !field.getType().isArray(), true);
            } else {
                held++;
                Due.is(name + " keeps its array", Modifier.isFinal(modifiers), field.getType().isArray());
            }
        }
        Due.is("at most 40 fields", held <= 40, true);
        Set<String> names = new TreeSet<>();
        for (Method method : HullSuite.class.getDeclaredMethods()) {
            Due.is(method.getName() + " has a name of its own", names.add(method.getName()), true);
            Due.is(method.getName() + " takes at most seven", method.getParameterCount() <= 7, true);
            Due.is(method.getName() + " answers no array", method.getReturnType().isArray(), false);
        }
    }

    private static void words(String code) {
        Matcher matcher = FORBIDDEN.matcher(code);
        while (matcher.find()) {
            Due.is("the word " + matcher.group(), true, false);
        }
        long made = Pattern.compile("\\bnew\\b").matcher(code).results().count();
        long madeInFields = Pattern.compile("(?m)^    private final \\w+\\[\\] \\w+ = new \\w+\\[[A-Z_0-9]+\\];$")
            .matcher(code).results().count();
        Due.is("arrays made outside of fields", made - madeInFields, 0);
    }

    private static Map<String, String> bodies(String code) {
        Map<String, String> bodies = new TreeMap<>();
        Matcher matcher = METHOD.matcher(code);
        while (matcher.find()) {
            int end = code.indexOf("\n    }\n", matcher.end());
            bodies.put(matcher.group(1), code.substring(matcher.end(), end));
        }
        Due.is("methods read from the text", bodies.size(), HullSuite.class.getDeclaredMethods().length);
        return bodies;
    }

    private static void shortAndPlain(String name, String body) {
        Due.is(name + " is short", body.lines().count() <= 60, true);
        Matcher matcher = CALL.matcher(body);
        while (matcher.find()) {
            if (!NO_CALLS.contains(matcher.group(1))) {
                String arguments = argumentsFrom(body, matcher.end());
                Due.is(name + ": a call within " + arguments, CALL.matcher(arguments).find(), false);
            }
        }
    }

    private static String argumentsFrom(String body, int start) {
        int open = 1;
        int end = start;
        while (open > 0) {
            char sign = body.charAt(end);
            open += sign == '(' ? 1 : sign == ')' ? -1 : 0;
            end++;
        }
        return body.substring(start, end - 1);
    }

    /** Follows every way down from a method: six methods deep at most, and none of them twice. */
    private static void depth(String name, Map<String, String> bodies, Deque<String> above) {
        if (above.contains(name) || above.size() == 6) {
            Due.is("the calls " + above + " go on to " + name, true, false);
            return;
        }
        above.addLast(name);
        Matcher matcher = CALL.matcher(bodies.get(name));
        while (matcher.find()) {
            String called = matcher.group(1);
            if (!NO_CALLS.contains(called)) {
                boolean own = bodies.containsKey(called);
                Due.is(name + " calls " + called + " of this class", own, true);
                if (own) {
                    depth(called, bodies, above);
                }
            }
        }
        above.removeLast();
    }
}
