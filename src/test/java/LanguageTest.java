import java.nio.file.Files;
import java.nio.file.Path;
import java.util.ArrayList;
import java.util.List;
import java.util.Set;
import java.util.regex.Matcher;
import java.util.regex.Pattern;

/** What of LANGUAGE.md can be seen from the text of src/main/java/MixCover.java. */
public final class LanguageTest {
    private static final Set<String> FACE = Set.of("feed", "end", "plan", "levels", "mix", "add", "tell", "cell",
            "drop", "open", "openMix", "hope", "greed", "fill", "field", "widen", "settle", "thin", "order", "drawn",
            "draws", "gain", "least", "lawful", "result", "guilty", "ask", "undo", "keep", "back", "count");

    private LanguageTest() {
    }

    public static void main(String[] args) throws Exception {
        String text = Files.readString(Path.of(args[0]));
        String code = text.replaceAll("(?s)/\\*.*?\\*/", "").replaceAll("//[^\\n]*", "")
                .replaceAll("\"[^\"\\n]*\"", "\"\"");
        forbidden(code);
        face(code);
        lengths(text);
        recursions(code);
        Check.endOf("LanguageTest");
    }

    private static void none(String code, String pattern, String why) {
        Matcher matcher = Pattern.compile(pattern).matcher(code);
        if (matcher.find()) {
            Check.fails(why + ": " + matcher.group());
        }
    }

    private static void forbidden(String code) {
        none(code, "\\b(throw|throws|try|catch|finally|synchronized|assert|native|volatile|transient|package|import)\\b", "rule 6");
        none(code, "->|::", "rule 2");
        none(code, "\\b(Exception|Error|Thread|Random|System\\.(?!arraycopy))", "rules 6 and 13");
        none(code, "\\w+Exact\\b", "rule 4");
        none(code, "\\b(equals|hashCode|toString)\\s*\\(", "rule 6");
        none(code, "\"\"\\s*\\+|\\+\\s*\"\"", "rule 10");
        none(code, "\\bstatic\\s+(?!final\\b)(?:int|long|boolean|char|String|int\\[\\])\\s+\\w+\\s*(=|;)", "rule 5");
        none(code, "[^\\x00-\\x7f]", "signs");
        none(code, "\\b(protected|public)\\s+(?!final class MixCover|static final int NONE|MixCover\\(|(?:int|long) \\w+\\()", "rule 1");
        int classes = 0;
        Matcher matcher = Pattern.compile("\\b(class|interface|record|enum)\\s+\\w+").matcher(code);
        while (matcher.find()) {
            classes++;
        }
        Check.due("classes, twelve at most: " + classes, classes <= 12 ? 1 : 0, 1);
    }

    private static void face(String code) {
        List<String> found = new ArrayList<>();
        Matcher matcher = Pattern.compile("public (?:int|long) (\\w+)\\(").matcher(code);
        while (matcher.find()) {
            found.add(matcher.group(1));
        }
        Check.due("public methods", found.size(), FACE.size());
        Check.due("all of the face", found.containsAll(FACE) ? 1 : 0, 1);
        matcher = Pattern.compile("\\n\\s+(?:private |static )*(?:int|long|boolean|void|String|int\\[\\]|[A-Z]\\w*) (\\w+)\\(").matcher(code);
        while (matcher.find()) {
            if (FACE.contains(matcher.group(1))) {
                Check.fails("rule 1: another method bears a public one's name: " + matcher.group(1));
            }
        }
    }

    /** Methods begin and end with the indent of their class's members. */
    private static void lengths(String text) {
        String[] lines = text.split("\n");
        for (int i = 0; i < lines.length; i++) {
            Matcher matcher = Pattern.compile("^( {4}| {8})(?! )[^=;]*\\b(\\w+)\\(.*\\{$").matcher(lines[i]);
            if (matcher.find()) {
                int end = i;
                while (end < lines.length && !lines[end].equals(matcher.group(1) + "}")) {
                    end++;
                }
                if (end - i > 60) {
                    Check.fails("rule 11: " + matcher.group(2) + " has " + (end - i) + " lines");
                }
            }
        }
    }

    /** A method that calls itself is private and static. */
    private static void recursions(String code) {
        String method = "(?m)^( {4}| {8})((?:private |public |static |final )*)[\\w\\[\\]<>]+ (\\w+)\\([^;{]*\\{$";
        Matcher matcher = Pattern.compile(method).matcher(code);
        int found = 0;
        while (matcher.find()) {
            int end = code.indexOf("\n" + matcher.group(1) + "}", matcher.end());
            String body = code.substring(matcher.end(), Math.max(matcher.end(), end));
            if (Pattern.compile("(?<![.\\w])" + matcher.group(3) + "\\(").matcher(body).find()) {
                found++;
                if (!matcher.group(2).equals("private static ")) {
                    Check.fails("rule 8: " + matcher.group(3) + " calls itself, but is not private and static");
                }
            }
        }
        Check.due("methods that call themselves", found, 2);
    }
}
