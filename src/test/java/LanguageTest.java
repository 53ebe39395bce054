import java.io.IOException;
import java.nio.file.Files;
import java.nio.file.Path;
import java.util.regex.Matcher;
import java.util.regex.Pattern;

/** Rules of LANGUAGE.md that can be seen in the words of the source; run from the project's folder. */
public final class LanguageTest {
    private static final Check CHECK = new Check();
    private static final String[] REFUSED = {
        "\\bpackage\\b", "\\bimport\\b", "\\bthrow\\b", "\\bthrows\\b", "\\btry\\b", "\\bcatch\\b", "\\bfinally\\b",
        "\\bsynchronized\\b", "\\bassert\\b", "->", "::", "\\bjava\\.", "\\bSystem\\b", "\\bObject\\b", "\\bdouble\\b",
        "\\bfloat\\b", "\\bvolatile\\b", "\\bnative\\b", "\\bprotected\\b", "\\bvar\\b", "static\\s*\\{",
        "while\\s*\\(\\s*true", "for\\s*\\(\\s*;\\s*;", "\\w+Exact\\b\\s*\\(", "\\[\\]\\[\\]", "\\bthread\\b",
    };
    private static final Pattern LIBRARY = Pattern.compile("\\b(Math|Integer|Long)\\.(\\w+)");
    private static final String KNOWN = " max min abs compare compareUnsigned floorDiv numberOfLeadingZeros "
        + "numberOfTrailingZeros MAX_VALUE ";
    private static final Pattern STATIC_FIELD = Pattern.compile(
        "\\bstatic\\s+(?!final\\b)[\\w\\[\\]]+\\s+\\w+\\s*[=;]");
    private static final Pattern MADE = Pattern.compile("\\bnew\\s+(\\w+)");
    private static final String MADE_KNOWN = " Line Numeral Natural ShortestDigits byte int ";

    public static void main(String[] args) throws IOException {
        String source = Files.readString(Path.of("src/main/java/DoubleTexts.java"));
        for (int i = 0; i < source.length(); i++) {
            if (source.charAt(i) > 126) {
                CHECK.same("character " + i + " is plain", false, true);
            }
        }
        String code = source.replaceAll("(?s)/\\*.*?\\*/", " ").replaceAll("//[^\n]*", " ");
        code = code.replaceAll("\"[^\"\n]*\"", "\"\"");
        for (String refused : REFUSED) {
            Matcher matcher = Pattern.compile(refused).matcher(code);
            CHECK.same("the source has " + refused, matcher.find(), false);
        }
        CHECK.same("static state", STATIC_FIELD.matcher(code).find(), false);
        onlyKnown(LIBRARY.matcher(code), 2, KNOWN);
        onlyKnown(MADE.matcher(code), 1, MADE_KNOWN);
        CHECK.end();
    }

    private static void onlyKnown(Matcher matcher, int group, String known) {
        while (matcher.find()) {
            String name = matcher.group(group);
            CHECK.same(name + " is known", known.contains(" " + name + " "), true);
        }
    }
}
