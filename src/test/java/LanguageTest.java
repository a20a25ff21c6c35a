import java.io.IOException;
import java.nio.file.Files;
import java.nio.file.Path;
import java.util.List;
import java.util.regex.Matcher;
import java.util.regex.Pattern;

/** Rules of LANGUAGE.md that can be seen in the source's words. Run from the project's folder. */
final class LanguageTest {
    private static final List<String> NEVER = List.of("->", "::", "\\bcatch\\b", "\\bfinally\\b", "\\bsynchronized\\b",
        "\\bassert\\b", "\\bimport\\b", "\\bpackage\\b", "\\bprotected\\b", "\\w+Exact\\b", "\\bstatic \\{",
        "\\bDouble\\b", "\\bFloat\\b", "\\bString\\b", "\\bObject\\b", "\\bThread\\b", "\\bSystem\\.(?!arraycopy)\\w+",
        "\\bMath\\.(?!floorMod|max|min)\\w+", "\\b(equals|hashCode|toString)\\b", "\\bstatic final double\\b",
        "\\bnew \\w+\\[\\w*\\]\\s*\\{", "\\binstanceof\\b", "\\bvar\\b", "\\byield\\b");
    private static final Pattern THROW = Pattern.compile("\\bthrow\\b[^;]*;");
    private static final Pattern LEGAL_THROW = Pattern.compile("throw new "
        + "(IllegalArgumentException|IllegalStateException|IndexOutOfBoundsException)\\(\"[a-z, ]+\"\\);");
    private static final Pattern STATIC_FIELD = Pattern.compile("static (final )?(\\w+(\\[\\])?) \\w+ =");

    public static void main(String[] args) throws IOException {
        Check check = new Check();
        String source = Files.readString(Path.of("src/main/java/NoisePost.java"));
        String code = source.replaceAll("(?s)/\\*.*?\\*/", "").replaceAll("//[^\n]*", "");
        String words = code.replaceAll("\"[^\"]*\"", "\"\"");
        for (String never : NEVER) {
            Matcher matcher = Pattern.compile(never).matcher(words);
            check.is("the source holds " + never, "", matcher.find() ? matcher.group() : "");
        }
        Matcher thrown = THROW.matcher(code);
        while (thrown.find()) {
            check.is(thrown.group(), true, LEGAL_THROW.matcher(thrown.group()).matches());
        }
        Matcher field = STATIC_FIELD.matcher(words);
        while (field.find()) {
            check.is(field.group() + " is final", "final ", field.group(1));
            check.is(field.group() + " is of int", true, field.group(2).equals("int") || field.group(2).equals("int[]"));
        }
        Matcher inside = Pattern.compile("(?m)^ +(.*)class \\w+ \\{").matcher(words);
        int classes = 1;
        while (inside.find()) {
            check.is(inside.group(), "private static final ", inside.group(1));
            classes++;
        }
        check.is(classes + " classes are at most 12", true, classes <= 12);
        check.end("LanguageTest");
    }
}
