import java.io.IOException;
import java.io.InputStream;
import java.nio.charset.StandardCharsets;
import java.nio.file.Files;
import java.nio.file.Path;
import java.util.Set;
import java.util.regex.Matcher;
import java.util.regex.Pattern;

/** The limits that "The public face" sets on the source of the class. */
public final class SourceLimitsTest {
    private static final Check CHECK = new Check();

    private static final Path SOURCE = Path.of("src/main/java/FracDivider.java");

    private static final Set<String> FORBIDDEN = Set.of(
        "throw", "throws", "try", "catch", "finally", "assert", "synchronized", "instanceof", "float", "double",
        "import", "package", "null", "interface", "enum", "record", "protected", "native", "strictfp", "var");

    public static void main(String[] args) throws IOException {
        String source = withoutComments(Files.readString(SOURCE));
        usesNoForbiddenWord(source);
        namesNoOtherClass(source);
        CHECK.holds("nothing is created (three char fields need no array)", !hasWord(source, "new"));
        CHECK.holds("no lambda, method reference or text", !Pattern.compile("->|::|\"").matcher(source).find());
        compilesToNothingElse();
        CHECK.finish();
    }

    private static String withoutComments(String text) {
        return text.replaceAll("(?s)/\\*.*?\\*/", " ").replaceAll("//[^\n]*", " ");
    }

    private static boolean hasWord(String source, String word) {
        return Pattern.compile("\\b" + word + "\\b").matcher(source).find();
    }

    private static void usesNoForbiddenWord(String source) {
        for (String word : FORBIDDEN) {
            CHECK.holds("the source is without '" + word + "'", !hasWord(source, word));
        }
    }

    // By Java's custom a name with a capital first and a small letter in it is
    // a class; the constants here are all capitals.
    private static void namesNoOtherClass(String source) {
        Matcher names = Pattern.compile("\\b[A-Z]\\w*[a-z]\\w*").matcher(source);
        while (names.find()) {
            CHECK.holds("the class '" + names.group() + "' is FracDivider", names.group().equals("FracDivider"));
        }
    }

    // What the source may hide the compiler writes out: <clinit> stands for a
    // static initialiser or a static field that is not a compile-time constant.
    private static void compilesToNothingElse() throws IOException {
        String compiled;
        try (InputStream in = FracDivider.class.getResourceAsStream("FracDivider.class")) {
            compiled = new String(in.readAllBytes(), StandardCharsets.ISO_8859_1);
        }
        CHECK.holds("static fields are compile-time constants", !compiled.contains("<clinit>"));
        Matcher library = Pattern.compile("java/[A-Za-z/]+").matcher(compiled);
        while (library.find()) {
            CHECK.holds("the library class " + library.group() + " is only Object, which every class extends",
                library.group().equals("java/lang/Object"));
        }
    }
}
