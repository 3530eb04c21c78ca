import java.io.IOException;
import java.nio.file.Files;
import java.nio.file.Path;
import java.util.regex.Matcher;
import java.util.regex.Pattern;

/** The class keeps to ../shared/LANGUAGE.md, as far as a look at its text and its members can tell. */
public final class LanguageTest {
    private static final Due due = new Due();

    private static void due(String call, long got, long want) {
        due.due(call, got, want);
    }

    public static void main(String[] args) throws IOException {
        due.promise("LANGUAGE.md");
        String source = Files.readString(Path.of("src/main/java/LipsThatFit.java"));
        String code = source.replaceAll("(?s)/\\*.*?\\*/", "").replaceAll("//[^\n]*", "");
        String[] never = {"throw", "throws", "try", "catch", "synchronized", "assert", "import", "package", "lambda",
            "Object", "equals", "hashCode", "toString", "Random", "System\\.(?!arraycopy)", "->", "::", "float",
            "double", "\\w+Exact", "protected", "volatile", "native"};
        for (String word : never) {
            String edge = Character.isLetter(word.charAt(0)) ? "\\b" : "";
            Matcher found = Pattern.compile(edge + word + (word.endsWith(")") ? "" : edge)).matcher(code);
            due("'" + word + "' is there", found.find() ? 1 : 0, 0);
        }
        members();
        lengths(source);
        due.end();
    }

    private static void members() {
        String[] face = {"mouth", "mouthAt", "word", "ofWord", "line", "ofLine", "said", "become", "as", "wanted",
            "say", "feed", "text", "law", "minutes", "matinees", "best", "dearest", "heard", "must", "forgotten",
            "like", "cast", "takes", "enough", "seed", "voice", "trace", "sheet", "put", "move", "mouths", "judge",
            "image", "restore", "tell", "check", "count", "told"};
        java.util.Set<String> names = java.util.Set.of(face);
        int open = 0;
        for (var method : LipsThatFit.class.getDeclaredMethods()) {
            boolean isPublic = java.lang.reflect.Modifier.isPublic(method.getModifiers());
            open += isPublic ? 1 : 0;
            due(method.getName() + " is of the face", names.contains(method.getName()) ? 1 : 0, isPublic ? 1 : 0);
            due(method.getName() + " is public or private",
                    isPublic || java.lang.reflect.Modifier.isPrivate(method.getModifiers()) ? 1 : 0, 1);
            due(method.getName() + "'s parameters", Math.max(7, method.getParameterCount()), 7);
        }
        due("methods of the face", open, face.length);
        for (var field : LipsThatFit.class.getDeclaredFields()) {
            due(field.getName() + " is private", field.getModifiers() & java.lang.reflect.Modifier.PRIVATE, 2);
        }
        due("constructors", LipsThatFit.class.getDeclaredConstructors().length, 1);
        due("classes inside are twelve at most", Math.max(12, LipsThatFit.class.getDeclaredClasses().length), 12);
    }

    /** Methods have sixty lines at most. */
    private static void lengths(String source) {
        int begin = 0;
        String[] lines = source.split("\n");
        for (int i = 0; i < lines.length; i++) {
            if (lines[i].matches(" {4}(?: {4})?[a-zA-Z].*\\) \\{") && !lines[i].contains(" class ")) {
                begin = i;
            } else if (lines[i].matches(" {4}(?: {4})?\\}") && i - begin > 60 && lines[begin].contains("(")) {
                due("lines of" + lines[begin], i - begin, 60);
            }
        }
    }
}
