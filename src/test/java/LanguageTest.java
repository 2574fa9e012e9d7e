import java.io.IOException;
import java.lang.reflect.Constructor;
import java.lang.reflect.Field;
import java.lang.reflect.Method;
import java.lang.reflect.Modifier;
import java.nio.file.Files;
import java.nio.file.Path;
import java.util.Arrays;
import java.util.Map;
import java.util.Set;
import java.util.TreeMap;
import java.util.TreeSet;
import java.util.regex.Matcher;
import java.util.regex.Pattern;

/** What a test can see of the rules of LANGUAGE.md, and of the public face. */
public final class LanguageTest {
    private static final Path SOURCE = Path.of("src/main/java/ClauseWatch.java");
    private static final String[] FACE = {"set(int,int)", "read()", "drop(int)", "step(int)", "back(int)",
        "of(int,int)", "trail(int)", "clause(int,int)", "count(int)", "answers()", "inAnswers(int,int)",
        "follows(int)", "needless()", "searched(int,int)", "ifTold(int)", "put(long)", "wipe()", "fault()",
        "undo()", "save(int)", "restore(int)"};
    private static final String[] CONSTANTS = {"NO_SUCH=-1", "BAD_VALUE=-2", "BAD_TEXT=-3", "TOO_MANY=-4",
        "NOT_POSSIBLE=-5", "NONE=-6", "OPEN=0", "FITS=1", "NEVER=2"};
    /** "Some sixty lines". */
    private static final int MOST_LINES = 66;
    private static final int MOST_FIELDS = 20;
    private static final int MOST_CLASSES = 12;
    private static final int MOST_PARAMETERS = 7;
    private static final int MOST_CALLS_DEEP = 8;

    private LanguageTest() {
    }

    public static void main(String[] args) throws IOException {
        face();
        classes();
        source(Files.readString(SOURCE));
        Due.end("LanguageTest");
    }

    private static void holds(String what, boolean holds) {
        Due.due(what, holds ? 1 : 0, 1);
    }

    private static boolean isPrivate(int modifiers) {
        return Modifier.isPrivate(modifiers);
    }

    private static String signature(Method method) {
        String parameters = Arrays.toString(Arrays.stream(method.getParameterTypes()).map(Class::getName).toArray());
        return method.getName() + parameters.replace(" ", "").replace('[', '(').replace(']', ')');
    }

    private static void face() {
        Set<String> methods = new TreeSet<>();
        for (Method method : ClauseWatch.class.getDeclaredMethods()) {
            if (!isPrivate(method.getModifiers()) && !method.isSynthetic()) {
                methods.add(signature(method));
                holds(method + " answers an int", method.getReturnType() == int.class);
                holds(method + " is public, not static",
                        (method.getModifiers() & (Modifier.PUBLIC | Modifier.STATIC)) == Modifier.PUBLIC);
            }
        }
        holds("methods of the face: " + methods, methods.equals(new TreeSet<>(Arrays.asList(FACE))));
        Set<String> constants = new TreeSet<>();
        for (Field field : ClauseWatch.class.getDeclaredFields()) {
            if (!isPrivate(field.getModifiers()) && !field.isSynthetic()) {
                constants.add(field.getName() + "=" + constant(field));
            }
        }
        holds("constants of the face: " + constants, constants.equals(new TreeSet<>(Arrays.asList(CONSTANTS))));
        Constructor<?>[] constructors = ClauseWatch.class.getConstructors();
        holds("one constructor, without arguments",
                constructors.length == 1 && constructors[0].getParameterCount() == 0);
    }

    private static String constant(Field field) {
        try {
            boolean isConstant = Modifier.isPublic(field.getModifiers()) && Modifier.isFinal(field.getModifiers());
            return isConstant ? String.valueOf(field.get(null)) : "no constant";
        } catch (IllegalAccessException e) {
            return e.getMessage();
        }
    }

    private static void classes() {
        Class<?>[] inside = ClauseWatch.class.getDeclaredClasses();
        holds("not too many classes", inside.length < MOST_CLASSES);
        aClass(ClauseWatch.class);
        for (Class<?> one : inside) {
            holds(one + " is static", Modifier.isStatic(one.getModifiers()));
            holds(one + " is private or package-visible",
                    (one.getModifiers() & (Modifier.PUBLIC | Modifier.PROTECTED)) == 0);
            aClass(one);
        }
    }

    private static void aClass(Class<?> one) {
        long fields = Arrays.stream(one.getDeclaredFields()).filter(f -> !Modifier.isStatic(f.getModifiers())).count();
        holds(one + " has not too many fields", fields <= MOST_FIELDS);
        for (Field field : one.getDeclaredFields()) {
            holds(field + " is final if static",
                    !Modifier.isStatic(field.getModifiers()) || Modifier.isFinal(field.getModifiers()));
        }
        Set<String> names = new TreeSet<>();
        for (String call : FACE) {
            names.add(call.substring(0, call.indexOf('(')));
        }
        for (Method method : one.getDeclaredMethods()) {
            holds(method + " takes not too many parameters", method.getParameterCount() <= MOST_PARAMETERS);
            holds(method + " bears no public one's name",
                    Modifier.isPublic(method.getModifiers()) || !names.contains(method.getName()));
        }
    }

    private static void source(String source) {
        holds("signs 1 to 127 alone", source.chars().allMatch(c -> c >= 1 && c <= 127));
        String code = source.replaceAll("(?s)/\\*.*?\\*/", "").replaceAll("//[^\n]*", "").replaceAll("'.'", "' '");
        for (String word : new String[] {"throw", "throws", "try", "catch", "finally", "synchronized", "assert",
            "package", "protected", "native", "volatile", "transient", "Thread", "random", "Object", "hashCode"}) {
            holds("no " + word, !Pattern.compile("\\b" + word + "\\b").matcher(code).find());
        }
        holds("no Exact", !code.contains("Exact"));
        String withoutArrowsOfCases = code.replaceAll("\\b(case\\b[^:;{}]*?|default\\s*)->", "");
        holds("no lambda and no method reference",
                !withoutArrowsOfCases.contains("->") && !code.contains("::"));
        holds("no static initialiser", !Pattern.compile("\\bstatic\\s*\\{").matcher(code).find());
        allFrom(code, "import\\s+([\\w.*]+)", "java.util.(ArrayList|List|Arrays|Iterator)");
        allFrom(code, "\\bSystem\\.(\\w+)", "arraycopy");
        allFrom(code, "\\bArrays\\.(\\w+)", "copyOf|copyOfRange|fill");
        methods(source.split("\n"));
    }

    /** The library that LANGUAGE.md lists, of what the first pattern finds. */
    private static void allFrom(String code, String pattern, String allowed) {
        Matcher found = Pattern.compile(pattern).matcher(code);
        while (found.find()) {
            holds("no " + found.group(), found.group(1).matches(allowed));
        }
    }

    /** A method begins at a line that ends a heading, and ends at the brace in the same column. */
    private static void methods(String[] lines) {
        Pattern heading = Pattern.compile("( +)(public|private) (?!.*\\b(class|new)\\b).*?(\\w+)\\(.*\\) \\{");
        Map<String, String> bodies = new TreeMap<>();
        for (int i = 0; i < lines.length; i++) {
            Matcher matcher = heading.matcher(lines[i]);
            if (matcher.matches()) {
                int end = i;
                while (end < lines.length && !lines[end].equals(matcher.group(1) + "}")) {
                    end++;
                }
                holds("short: " + lines[i].trim(), end - i < MOST_LINES);
                String body = String.join("\n", Arrays.asList(lines).subList(i + 1, end)).replaceAll("//[^\n]*", "");
                indicesAreLookedAt(lines[i].trim(), lines[i] + "\n" + body);
                bodies.merge(matcher.group(4), body, String::concat);
            }
        }
        for (String name : bodies.keySet()) {
            int deep = callsDeep(name, bodies, 0);
            holds(name + " calls not too deep: " + deep, deep <= MOST_CALLS_DEEP);
        }
    }

    /** How many calls stand open at most when a method was called, its own too; those of one name count as one. */
    private static int callsDeep(String name, Map<String, String> bodies, int above) {
        int deepest = above + 1;
        Matcher call = Pattern.compile("(\\w+)\\(").matcher(bodies.get(name));
        while (call.find() && deepest <= MOST_CALLS_DEEP) {
            if (bodies.containsKey(call.group(1))) {
                deepest = Math.max(deepest, callsDeep(call.group(1), bodies, above + 1));
            }
        }
        return deepest;
    }

    /** Rule 7: a name in an index is compared, in the same method, with what lies below and above all indices. */
    private static void indicesAreLookedAt(String heading, String method) {
        String code = method.replaceAll("new \\w+\\[[^\\]]*\\]", "new row");
        Matcher index = Pattern.compile("\\w\\[([^\\]]+)\\]").matcher(code);
        while (index.find()) {
            Matcher name = Pattern.compile("\\b[a-z]\\w*").matcher(index.group(1));
            while (name.find()) {
                // Where it begins, what it is compared with, or where a loop stops that counts it down.
                String below = "\\b" + name.group() + " (=|<|<=|>=|>) [01]\\b";
                String above = "\\b" + name.group() + "( \\+ 1)? (<|>=|>) ([A-Z]\\w*|\\w+\\.length)\\b";
                holds("index " + index.group(1) + " is looked at in " + heading,
                        Pattern.compile(below).matcher(code).find() && Pattern.compile(above).matcher(code).find());
            }
        }
    }
}
