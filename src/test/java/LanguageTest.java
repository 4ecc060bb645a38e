import java.io.IOException;
import java.nio.file.Files;
import java.nio.file.Path;
import java.util.ArrayList;
import java.util.List;
import java.util.regex.Matcher;
import java.util.regex.Pattern;

/** Rules of LANGUAGE.md that can be told from the text of the class. */
public final class LanguageTest {
    private static final Due DUE = new Due("LanguageTest");
    private static final String[] FACE = {"feed", "end", "fault", "text", "rule", "person", "thought", "goes", "law",
        "memory", "hours", "think", "forget", "hem", "wind", "give", "years", "status", "undo", "log", "behind",
        "floatsIn", "load", "together", "goings", "held", "eased", "seen", "fits", "ask", "game", "rests", "odds",
        "shares", "most", "image", "back", "count"};

    public static void main(String[] args) throws IOException {
        String source = Files.readString(Path.of("src/main/java/RememberedWeight.java"));
        String code = source.replaceAll("(?s)/\\*.*?\\*/", "").replaceAll("//[^\n]*", "").replaceAll("\"[^\"\n]*\"", "\"\"");
        forbidden(code);
        face(code);
        lengths(code);
        signs(source);
        DUE.finish();
    }

    private static int found(String code, String pattern) {
        int found = 0;
        Matcher m = Pattern.compile(pattern).matcher(code);
        while (m.find()) {
            found++;
        }
        return found;
    }

    private static void forbidden(String code) {
        String[] patterns = {"->", "::", "\\bcatch\\b", "\\bfinally\\b", "\\bsynchronized\\b", "\\bassert\\b",
            "\\bprotected\\b", "\\bpackage\\b", "Exact\\(", "\\bStrictMath\\b", "\\bMath\\.", "\\bSystem\\.(?!arraycopy)",
            "\\bObject\\b", "\\bRandom\\b", "\\bThread\\b", "\\bfloat\\b", "\\bdouble\\b", "\\bgetMessage\\b", "\\bvar\\b",
            "\\bstatic\\s*\\{", "\"\"\\s*\\+|\\+\\s*\"\"", "\\blambda\\b", "\\bpublic static (?!final int)"};
        for (String pattern : patterns) {
            DUE.is("times " + pattern, found(code, pattern), 0);
        }
        DUE.is("imports", found(code, "(?m)^import "), 1);
        DUE.is("throws by a statement", found(code, "throw new NoSuchElementException\\("), found(code, "\\bthrow\\b"));
        DUE.is("static fields are final", found(code, "\\bstatic (?!final)[\\w\\[\\]]+ \\w+ *[=;]"), 0);
        DUE.is("classes, some twelve", found(code, "\\bclass \\w+") <= 12, true);
        DUE.is("nested classes are private and static",
                found(code, "\\bprivate static final class \\w+"), found(code, "\\bclass \\w+") - 1);
    }

    /** The face is public; nothing else of the class is, and no private method bears the name of a public one. */
    private static void face(String code) {
        DUE.is("public methods", found(code, "(?m)^    public (int|boolean) \\w+\\("), FACE.length);
        DUE.is("all that is public", found(code, "\\bpublic\\b"), FACE.length + 4);
        for (String name : FACE) {
            DUE.is("public " + name, found(code, "(?m)^    public (int|boolean) " + name + "\\("), 1);
            DUE.is("other methods " + name, found(code, "(?m)^ +(?!public|return)[\\w\\[\\]]+( [\\w\\[\\]]+)* " + name
                    + "\\([^;]*\\{"), 0);
        }
        int visible = found(code, "(?m)^    (?!private|public|import)\\w[\\w\\[\\]]* [^(]*\\(");
        DUE.is("neither private nor public", visible, 0);
    }

    private static void lengths(String code) {
        List<Integer> long60 = new ArrayList<>();
        String[] lines = code.split("\n");
        int begun = -1;
        for (int i = 0; i < lines.length; i++) {
            if (lines[i].matches("^ {4}( {4})?\\S.*\\) (throws \\w+ )?\\{$") && !lines[i].contains("class ")) {
                begun = i;
                int parameters = lines[i].replaceAll("^[^(]*\\(|\\).*", "").split(",").length;
                DUE.is("parameters of " + lines[i].trim(), parameters <= 7, true);
            }
            if (begun >= 0 && lines[i].matches("^ {4}( {4})?\\}$")) {
                if (i - begun > 60) {
                    long60.add(begun + 1);
                }
                begun = -1;
            }
        }
        DUE.is("methods of more than sixty lines", long60.size(), 0);
    }

    private static void signs(String source) {
        int wrong = 0;
        for (char c : source.toCharArray()) {
            wrong += c == '\n' || c >= 32 && c < 127 ? 0 : 1;
        }
        DUE.is("signs beyond 127", wrong, 0);
    }
}
