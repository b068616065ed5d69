import java.io.IOException;
import java.lang.reflect.Constructor;
import java.lang.reflect.Field;
import java.lang.reflect.Method;
import java.lang.reflect.Modifier;
import java.nio.file.Files;
import java.nio.file.Path;
import java.util.Arrays;
import java.util.HashSet;
import java.util.Map;
import java.util.Set;
import java.util.TreeMap;
import java.util.TreeSet;
import java.util.regex.Matcher;
import java.util.regex.Pattern;

// The rules of LANGUAGE.md that a program can look for, and the document's face.
// It reads the source from the project's folder, where .ci/run starts it.
public final class LanguageTest {
    private static final Class<?> FACE = PatienceDiff.class;

    private static final Set<String> CONSTANTS = Set.of(
        "SEQ_OLD=0", "SEQ_NEW=1", "SEQ_BASE=2", "SEQ_RESULT=3",
        "KIND_KEEP=0", "KIND_DELETE=1", "KIND_INSERT=2",
        "F_A_START=0", "F_A_LEN=1", "F_B_START=2", "F_B_LEN=3", "F_SIZE=4", "F_APPLIED_AT=5",
        "REFUSED=-1", "MATCH_DELETED=-1", "MATCH_INVALID=-2", "APPLY_NO_DIFF=-1", "APPLY_FAIL_BASE=-2");

    private static final Set<String> METHODS = Set.of(
        "void clear()", "int addLine(int, int)", "int length(int)", "int line(int, int)", "int diff()",
        "int matchOf(int)", "int scriptLength()", "int scriptKind(int)", "int hunkCount()",
        "int hunkInfo(int, int)", "int hunkLineKind(int, int)", "int hunkLineHash(int, int)", "int apply(int)");

    private static final Set<Class<?>> TYPES = Set.of(
        void.class, int.class, long.class, short.class, byte.class, char.class, boolean.class,
        int[].class, long[].class, short[].class, byte[].class, char[].class, boolean[].class);

    public static void main(String[] args) throws IOException, IllegalAccessException {
        faceIsTheDocuments();
        fieldsKeepToTheTypes();
        methodsKeepToTheTypes();
        String code = code();
        sourceKeepsToTheWords(code);
        methodsKeepToTheRules(bodies(code));
        Check.end();
    }

    private static void faceIsTheDocuments() throws IllegalAccessException {
        Check.due("the class's modifiers", FACE.getModifiers(), Modifier.PUBLIC | Modifier.FINAL);
        Check.due("nested classes", FACE.getDeclaredClasses().length, 0);
        Check.due("interfaces", FACE.getInterfaces().length, 0);
        Constructor<?>[] constructors = FACE.getDeclaredConstructors();
        Check.due("constructors", constructors.length, 1);
        Check.holds("PatienceDiff(int, int) is public", Modifier.isPublic(constructors[0].getModifiers())
            && Arrays.equals(constructors[0].getParameterTypes(), new Class<?>[] {int.class, int.class}));
        Set<String> constants = new TreeSet<>();
        for (Field field : FACE.getDeclaredFields()) {
            if (!Modifier.isPrivate(field.getModifiers())) {
                Check.due(field.getName() + "'s modifiers", field.getModifiers(),
                    Modifier.PUBLIC | Modifier.STATIC | Modifier.FINAL);
                constants.add(field.getName() + "=" + field.getInt(null));
            }
        }
        Check.holds("the constants are " + constants, constants.equals(CONSTANTS));
        Set<String> methods = new TreeSet<>();
        for (Method method : FACE.getDeclaredMethods()) {
            if (!Modifier.isPrivate(method.getModifiers())) {
                Check.due(method.getName() + "'s modifiers", method.getModifiers(), Modifier.PUBLIC);
                methods.add(signature(method));
            }
        }
        Check.holds("the methods are " + methods, methods.equals(METHODS));
    }

    private static String signature(Method method) {
        String parameters = Arrays.toString(method.getParameterTypes()).replace("[", "(").replace("]", ")");
        return method.getReturnType() + " " + method.getName() + parameters;
    }

    private static void fieldsKeepToTheTypes() {
        int fields = 0;
        for (Field field : FACE.getDeclaredFields()) {
            Check.holds("rule 2: type of " + field.getName(), TYPES.contains(field.getType()));
            if (Modifier.isStatic(field.getModifiers())) {
                Check.holds("rule 5: " + field.getName(), Modifier.isFinal(field.getModifiers())
                    && (field.getType() == int.class || field.getType() == long.class));
            } else {
                fields++;
            }
        }
        Check.holds("rule 10: at most forty fields, not " + fields, fields <= 40);
    }

    private static void methodsKeepToTheTypes() {
        Set<String> names = new HashSet<>();
        for (Method method : FACE.getDeclaredMethods()) {
            Check.holds("rule 1: one method by the name " + method.getName(), names.add(method.getName()));
            Check.holds("rules 2, 4: answer of " + method.getName(),
                TYPES.contains(method.getReturnType()) && !method.getReturnType().isArray());
            Check.holds("rule 10: parameters of " + method.getName(), method.getParameterCount() <= 7);
            for (Class<?> type : method.getParameterTypes()) {
                Check.holds("rule 2: parameters of " + method.getName(), TYPES.contains(type));
            }
        }
    }

    // Comments go, but their line ends stay, for the methods' lines are counted.
    private static String code() throws IOException {
        String source = Files.readString(Path.of("src/main/java/PatienceDiff.java"));
        Matcher comment = Pattern.compile("//[^\n]*|(?s:/\\*.*?\\*/)").matcher(source);
        return comment.replaceAll(found -> found.group().replaceAll("[^\n]", ""));
    }

    private static void sourceKeepsToTheWords(String code) {
        String[] words = {
            "package", "import", "interface", "enum", "record", "float", "double", "String", "Object", "Math",
            "Integer", "Long", "System", "Arrays", "null", "throw", "throws", "try", "catch", "finally",
            "synchronized", "assert", "instanceof", "protected", "var", "getClass", "hashCode", "equals", "toString"
        };
        for (String word : words) {
            Check.due("rules 1 to 6: the word " + word, count("\\b" + word + "\\b", code), 0);
        }
        for (String sign : new String[] {"->", "::", "\"", "@"}) {
            Check.holds("rules 2 to 6: the sign " + sign, !code.contains(sign));
        }
        Check.due("rule 5: static initialisers", count("\\bstatic\\s*\\{", code), 0);
        Check.due("rule 4: arrays with a fixed length", count("\\bnew\\s+[a-z]+\\s*\\[\\s*\\w+\\s*\\]", code),
            count("\\bnew\\b", code));
    }

    private static int count(String pattern, String text) {
        return (int) Pattern.compile(pattern).matcher(text).results().count();
    }

    // The text of each method and of the constructor, by name.
    private static Map<String, String> bodies(String code) {
        Map<String, String> bodies = new TreeMap<>();
        int depth = 0;
        int headFrom = 0;
        int bodyFrom = 0;
        for (int at = 0; at < code.length(); at++) {
            char sign = code.charAt(at);
            depth += sign == '{' ? 1 : 0;
            if (sign == '{' && depth == 2) {
                bodyFrom = at;
            } else if (sign == '}' && depth == 2) {
                addBody(bodies, code.substring(headFrom, bodyFrom), code.substring(bodyFrom, at + 1));
            }
            depth -= sign == '}' ? 1 : 0;
            if (depth == 1 && (sign == '{' || sign == '}' || sign == ';')) {
                headFrom = at + 1;
            }
        }
        Check.due("methods found in the source", bodies.size(), FACE.getDeclaredMethods().length + 1);
        return bodies;
    }

    private static void addBody(Map<String, String> bodies, String head, String body) {
        Matcher name = Pattern.compile("(\\w+)\\s*\\(").matcher(head);
        if (name.find() && !head.contains("=")) {
            bodies.put(name.group(1), body);
        }
    }

    private static void methodsKeepToTheRules(Map<String, String> bodies) {
        Pattern call = Pattern.compile("\\b(" + String.join("|", bodies.keySet()) + ")\\s*\\(");
        for (Map.Entry<String, String> method : bodies.entrySet()) {
            String name = method.getKey();
            String body = method.getValue();
            Check.holds("rule 10: " + name + " is short", body.lines().count() <= 60);
            Check.holds("rule 4: " + name + " makes nothing",
                name.equals("PatienceDiff") || count("\\bnew\\b", body) == 0);
            Matcher found = call.matcher(body);
            while (found.find()) {
                String arguments = arguments(body, found.end());
                Check.holds("rule 10: no call within " + found.group() + arguments + " in " + name,
                    !call.matcher(arguments).find());
            }
            callsEnd(name, call, bodies);
        }
    }

    private static String arguments(String body, int from) {
        int open = 1;
        int at = from;
        while (open > 0) {
            open += body.charAt(at) == '(' ? 1 : body.charAt(at) == ')' ? -1 : 0;
            at++;
        }
        return body.substring(from, at);
    }

    // A recursion would show as calls that are still going on after six steps.
    private static void callsEnd(String name, Pattern call, Map<String, String> bodies) {
        Set<String> running = Set.of(name);
        for (int depth = 1; depth <= 6; depth++) {
            Set<String> called = new TreeSet<>();
            for (String caller : running) {
                call.matcher(bodies.get(caller)).results().forEach(found -> called.add(found.group(1)));
            }
            running = called;
        }
        Check.holds("rules 8, 10: six deep from " + name + " runs " + running, running.isEmpty());
    }
}
