import java.nio.file.Files;
import java.nio.file.Path;
import java.util.regex.Matcher;
import java.util.regex.Pattern;

/** The calls in README.md's java blocks, one after another, answer the number behind their slashes. */
public final class ReadmeTest {
    private static final Pattern CALL = Pattern.compile("cover\\.(\\w+)\\(([-\\d, ]*)\\);\\s*// (-?\\d+)\\b.*");
    private static final Pattern TEXT = Pattern.compile("feedText\\(cover, \"([^\"]*)\"\\); // (\\d+)\\b.*");

    private ReadmeTest() {
    }

    public static void main(String[] args) throws Exception {
        MixCover cover = null;
        boolean inBlock = false;
        for (String line : Files.readAllLines(Path.of(args[0]))) {
            if (line.startsWith("```")) {
                inBlock = line.equals("```java");
            } else if (inBlock && line.equals("MixCover cover = new MixCover();")) {
                cover = new MixCover();
            } else if (inBlock) {
                call(cover, line);
            }
        }
        Check.due("calls enough", cover != null && cover.count(8) == 1 ? 1 : 0, 1);
        Check.endOf("ReadmeTest");
    }

    private static void call(MixCover cover, String line) throws Exception {
        Matcher text = TEXT.matcher(line);
        Matcher call = CALL.matcher(line);
        if (text.matches()) {
            Check.feed(cover, text.group(1));
            Check.due(line, cover.count(12), Long.parseLong(text.group(2)));
        } else if (call.matches()) {
            String[] told = call.group(2).isEmpty() ? new String[0] : call.group(2).split(", ");
            Class<?>[] types = new Class<?>[told.length];
            Object[] values = new Object[told.length];
            for (int i = 0; i < told.length; i++) {
                types[i] = int.class;
                values[i] = Integer.valueOf(told[i]);
            }
            Number got = (Number) MixCover.class.getMethod(call.group(1), types).invoke(cover, values);
            Check.due(line, got.longValue(), Long.parseLong(call.group(3)));
        } else {
            Check.fails("not a call with its answer: " + line);
        }
    }
}
