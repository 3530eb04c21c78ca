import java.io.IOException;
import java.io.PrintWriter;
import java.io.StringWriter;
import java.lang.reflect.Field;
import java.lang.reflect.Method;
import java.lang.reflect.Modifier;
import java.nio.file.Files;
import java.nio.file.Path;
import java.util.ArrayList;
import java.util.HashMap;
import java.util.List;
import java.util.Map;
import java.util.Set;
import java.util.TreeSet;
import java.util.regex.Matcher;
import java.util.regex.Pattern;
import java.util.spi.ToolProvider;

/** The class keeps to ../shared/LANGUAGE.md, as far as its text, its members and its calls can tell. */
public final class LanguageTest {
    private static final Due due = new Due();

    private static final Set<String> FACE = Set.of("mouth", "mouthAt", "word", "ofWord", "line", "ofLine", "said",
            "become", "as", "wanted", "say", "feed", "text", "law", "minutes", "matinees", "best", "dearest", "heard",
            "must", "forgotten", "like", "cast", "takes", "enough", "seed", "voice", "trace", "sheet", "put", "move",
            "mouths", "judge", "image", "restore", "tell", "check", "count", "told");

    /** The types of static fields that there may be. */
    private static final Set<String> CONSTANTS = Set.of("int", "long", "boolean", "char", "String", "int[]", "long[]",
            "char[]", "byte[]");

    private static void due(String call, long got, long want) {
        due.due(call, got, want);
    }

    /** What must not stand in the text, strings and comments aside. */
    private static void words(String source) {
        due.promise("LANGUAGE.md, 2, 4, 6, 13");
        String code = source.replaceAll("(?s)/\\*.*?\\*/", "").replaceAll("//[^\n]*", "")
                .replaceAll("(case [^:;{}]*|default)\\s*->", "");
        String[] never = {"\\bthrows?\\b", "\\btry\\b", "\\bcatch\\b", "\\bsynchronized\\b", "\\bassert\\b",
            "\\bpackage\\b", "\\bimport (?!java\\.util\\.(ArrayList|Arrays|List|Iterator);)", "->", "::", "\\bnew \\w+\\([^)]*\\) \\{",
            "\\bhashCode\\b", "\\w+Exact\\b", "\\bMath\\.random\\b", "\\bSystem\\.(?!arraycopy\\b)", "\\bThread\\b",
            "\\bprotected\\b", "\\bvolatile\\b", "\\bnative\\b"};
        for (String each : never) {
            Matcher found = Pattern.compile(each).matcher(code);
            due("how often is there " + each, found.results().count(), 0);
        }
    }

    private static List<Class<?>> classes() {
        List<Class<?>> classes = new ArrayList<>(List.of(LipsThatFit.class.getDeclaredClasses()));
        classes.add(LipsThatFit.class);
        return classes;
    }

    private static void members() {
        due.promise("LANGUAGE.md, 1");
        int open = 0;
        for (Method method : LipsThatFit.class.getDeclaredMethods()) {
            boolean isPublic = Modifier.isPublic(method.getModifiers());
            open += isPublic ? 1 : 0;
            due(method.getName() + " is of the face", FACE.contains(method.getName()) ? 1 : 0, isPublic ? 1 : 0);
            due(method.getName() + " is public or private",
                    isPublic || Modifier.isPrivate(method.getModifiers()) ? 1 : 0, 1);
        }
        due("methods of the face", open, FACE.size());
        for (Field field : LipsThatFit.class.getDeclaredFields()) {
            due(field.getName() + " is private", Modifier.isPrivate(field.getModifiers()) ? 1 : 0, 1);
        }
        due("constructors", LipsThatFit.class.getDeclaredConstructors().length, 1);
        due.promise("LANGUAGE.md, 2, 5, 11");
        due("classes inside are twelve at most", Math.max(12, classes().size() - 1), 12);
        for (Class<?> each : classes()) {
            int fields = 0;
            for (Field field : each.getDeclaredFields()) {
                boolean isStatic = Modifier.isStatic(field.getModifiers());
                fields += isStatic ? 0 : 1;
                due(field.getName() + " is static and not final",
                        isStatic && !Modifier.isFinal(field.getModifiers()) ? 1 : 0, 0);
                due(field.getName() + " is static and of another type than may be",
                        isStatic && !CONSTANTS.contains(field.getType().getSimpleName()) ? 1 : 0, 0);
            }
            due(each.getName() + "'s fields", Math.max(20, fields), 20);
            due(each.getName() + " is static", each == LipsThatFit.class || Modifier.isStatic(each.getModifiers()) ? 1 : 0, 1);
            for (Method method : each.getDeclaredMethods()) {
                due(method.getName() + "'s parameters", Math.max(7, method.getParameterCount()), 7);
                due(method.getName() + " bears a name of the face",
                        each != LipsThatFit.class && FACE.contains(method.getName()) ? 1 : 0, 0);
            }
        }
    }

    private static void lengths(String source) {
        due.promise("LANGUAGE.md, 11: methods have some sixty lines");
        int begin = 0;
        String[] lines = source.split("\n");
        for (int i = 0; i < lines.length; i++) {
            if (lines[i].matches(" {4}(?: {4})?[a-zA-Z].*\\) \\{") && !lines[i].contains(" class ")) {
                begin = i;
            } else if (lines[i].matches(" {4}(?: {4})?\\}") && i - begin > 60 && lines[begin].contains("(")) {
                due("lines of" + lines[begin], i - begin, 60);
            }
        }
    }

    /** By each method of the class and those inside it, which of them it calls; what makes an object calls "new". */
    private static Map<String, Set<String>> calls() {
        Map<String, Set<String>> calls = new HashMap<>();
        ToolProvider javap = ToolProvider.findFirst("javap").orElseThrow();
        for (Class<?> each : classes()) {
            StringWriter text = new StringWriter();
            PrintWriter out = new PrintWriter(text);
            javap.run(out, out, "-c", "-p", "-cp", System.getProperty("java.class.path"), each.getName());
            Set<String> called = new TreeSet<>();
            for (String line : text.toString().split("\n")) {
                Matcher method = Pattern.compile("^ {2}(?:\\S+ )*(?:([\\w$]+)\\(.*\\)|static \\{\\});$").matcher(line);
                Matcher call = Pattern.compile("// (?:Interface)?Method (?:([\\w$]+)\\.)?\"?([\\w$<>]+)\"?:\\(").matcher(line);
                if (method.find()) {
                    called = new TreeSet<>();
                    String name = method.group(1) == null ? "<clinit>" : method.group(1);
                    calls.put(each.getName() + "." + (name.equals(each.getName()) ? "<init>" : name), called);
                } else if (line.matches(" +\\d+: (new|newarray|anewarray|multianewarray|invokedynamic) .*")) {
                    called.add("new");
                } else if (call.find()) {
                    called.add((call.group(1) == null ? each.getName() : call.group(1)) + "." + call.group(2));
                }
            }
        }
        return calls;
    }

    /** How deep calls go from a method on, recursion aside. */
    private static int depth(Map<String, Set<String>> calls, String method, List<String> open) {
        if (!calls.containsKey(method) || open.contains(method)) {
            return 0;
        }
        int deepest = 0;
        open.add(method);
        for (String called : calls.get(method)) {
            deepest = Math.max(deepest, depth(calls, called, open));
        }
        open.remove(method);
        return 1 + deepest;
    }

    private static void makers(Map<String, Set<String>> calls) {
        due.promise("LANGUAGE.md, 12: what a run makes is kept small: constructors alone make objects");
        int makers = 0;
        for (Map.Entry<String, Set<String>> method : calls.entrySet()) {
            boolean makes = method.getValue().contains("new");
            makers += makes ? 1 : 0;
            boolean constructs = method.getKey().endsWith(".<init>") || method.getKey().endsWith(".<clinit>");
            due(method.getKey() + " makes an object", makes && !constructs ? 1 : 0, 0);
        }
        due("constructors that make objects were found", makers > 0 ? 1 : 0, 1);
    }

    private static void depths(Map<String, Set<String>> calls) {
        due.promise("LANGUAGE.md, 11: calls that are no recursion go at most eight deep");
        int deepest = 0;
        for (String method : FACE) {
            int depth = depth(calls, "LipsThatFit." + method, new ArrayList<>());
            due("how deep " + method + " goes", Math.max(8, depth), 8);
            deepest = Math.max(deepest, depth);
        }
        due("calls were found", deepest > 1 ? 1 : 0, 1);
    }

    public static void main(String[] args) throws IOException {
        String source = Files.readString(Path.of("src/main/java/LipsThatFit.java"));
        words(source);
        members();
        lengths(source);
        Map<String, Set<String>> calls = calls();
        depths(calls);
        makers(calls);
        due.end();
    }
}
