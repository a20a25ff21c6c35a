import java.io.IOException;
import java.nio.file.Files;
import java.nio.file.Path;
import java.util.List;
import java.util.regex.Matcher;
import java.util.regex.Pattern;

/** Rules of LANGUAGE.md that can be seen in the source's words, and no stricter ones. Run from the project's folder. */
final class LanguageTest {
    private static final String EXCEPTION = "(IllegalStateException|IllegalArgumentException|IndexOutOfBoundsException"
        + "|ArithmeticException|UnsupportedOperationException|NoSuchElementException|RuntimeException)";
    private static final List<String> NEVER = List.of("->", "::", "\\bfinally\\b", "\\bsynchronized\\b", "\\bassert\\b",
        "\\bpackage\\b", "\\bprotected\\b", "\\w+Exact\\b", "\\bstatic\\s*\\{", "\\bDouble\\b", "\\bFloat\\b",
        "\\bObject\\b", "\\bThread\\b", "\\bSystem\\.(?!arraycopy\\b)\\w+", "\\btry\\s*\\(", "\\bextends \\w*Exception\\b",
        "\\b(boolean equals|int hashCode|String toString)\\(", "\\bgetMessage\\b",
        "\\bimport (?!java\\.util\\.(ArrayList|List|Arrays|Iterator|NoSuchElementException);)");
    private static final Pattern THROW = Pattern.compile("\\bthrow\\b[^;]*;");
    private static final Pattern LEGAL_THROW = Pattern.compile("throw new " + EXCEPTION + "\\((\"[ -~]*\")?\\);");
    private static final Pattern CATCH = Pattern.compile("\\bcatch\\b[^{]*");
    private static final Pattern LEGAL_CATCH = Pattern.compile(
        "catch\\s*\\(" + EXCEPTION + "(\\s*\\|\\s*" + EXCEPTION + ")*\\s+\\w+\\)\\s*");
    private static final Pattern STATIC_FIELD = Pattern.compile(
        "\\bstatic (final )?(\\w+(\\[\\])?) \\w+ =(?! \\w+\\.values\\(\\))");
    private static final Pattern LEGAL_CONSTANT = Pattern.compile(
        "int|long|boolean|char|String|(int|long|char|byte)\\[\\]");
    private static final int MOST_CLASSES = 13;

    private final Check check = new Check();
    private final String code;
    /** The code without comments and the insides of texts. */
    private final String words;

    private LanguageTest(String source) {
        code = source.replaceAll("(?s)/\\*.*?\\*/", "").replaceAll("//[^\n]*", "");
        words = code.replaceAll("\"[^\"]*\"", "\"\"").replaceAll("\\b(case [^:;{}]*?|default)\\s*->", "$1:");
    }

    public static void main(String[] args) throws IOException {
        LanguageTest test = new LanguageTest(Files.readString(Path.of("src/main/java/NoisePost.java")));
        test.neverInTheSource();
        test.legal(THROW, LEGAL_THROW, test.code);
        test.legal(CATCH, LEGAL_CATCH, test.words);
        test.staticFields();
        test.classes();
        test.check.end("LanguageTest");
    }

    private void neverInTheSource() {
        for (String never : NEVER) {
            Matcher matcher = Pattern.compile(never).matcher(words);
            check.is("the source holds " + never, "", matcher.find() ? matcher.group() : "");
        }
    }

    private void legal(Pattern found, Pattern legal, String text) {
        Matcher matcher = found.matcher(text);
        while (matcher.find()) {
            check.is(matcher.group(), true, legal.matcher(matcher.group()).matches());
        }
    }

    private void staticFields() {
        Matcher field = STATIC_FIELD.matcher(words);
        while (field.find()) {
            check.is(field.group() + " is final", "final ", field.group(1));
            check.is(field.group() + " may be a constant", true, LEGAL_CONSTANT.matcher(field.group(2)).matches());
        }
    }

    private void classes() {
        Matcher inside = Pattern.compile("\\b(class|record|enum|interface) \\w+").matcher(words);
        int classes = 0;
        while (inside.find()) {
            classes++;
        }
        check.is(classes + " classes are at most some twelve", true, classes <= MOST_CLASSES);
    }
}
