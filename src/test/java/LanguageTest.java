import java.nio.file.Files;
import java.nio.file.Path;
import java.util.regex.Matcher;
import java.util.regex.Pattern;

/** Those rules of LANGUAGE.md that can be seen in the words of the source. Run where src/ is. */
public final class LanguageTest {
    private static final String[] FORBIDDEN = {
        "\\bpackage\\b", "\\bimport\\b", "\\btry\\b", "\\bcatch\\b", "\\bfinally\\b", "\\bsynchronized\\b",
        "\\bassert\\b", "\\bvar\\b", "\\bgoto\\b", "->", "::", "\\bnative\\b", "\\bvolatile\\b", "\\bThread\\b",
        "\\bSystem\\.(?!arraycopy\\b)", "\\bMath\\.(?!max\\b|min\\b|abs\\b|floorMod\\b)",
        "\\bInteger\\.(?!bitCount\\b)", "\\bLong\\b", "\\bObject\\b", "\\bequals\\b", "\\bhashCode\\b",
        "\\btoString\\b", "\\bformat\\b", "\\bExact\\b", "\\bprotected\\b", "\\bnull\\b", "\\bfloat\\b", "\\bdouble\\b",
        "\"\\s*\\+", "\\+\\s*\"", "\\bthrow\\s+(?!new IndexOutOfBoundsException\\(\"[a-z ]+\"\\))",
        "\\bstatic\\s+(?!final\\b)(int|long|boolean|char|byte|String)(\\[\\])*\\s+\\w+\\s*[=;]", "\\bstatic\\s*\\{"};

    private LanguageTest() {
    }

    public static void main(String[] args) throws Exception {
        String source = Files.readString(Path.of("src/main/java/SatelliteExchange.java"));
        String code = source.replaceAll("(?s)/\\*.*?\\*/", "").replaceAll("//[^\n]*", "");
        for (String pattern : FORBIDDEN) {
            Matcher m = Pattern.compile(pattern).matcher(code);
            Check.that("no " + pattern + (m.find() ? ", but: " + line(code, m.start()) : ""), !m.reset().find());
        }
        Check.that("signs from 1 to 127", source.chars().allMatch(c -> c > 0 && c < 128));
        methodsAreShort(code);
        Check.end();
    }

    private static String line(String code, int at) {
        int end = code.indexOf('\n', at);
        return code.substring(code.lastIndexOf('\n', at) + 1, end < 0 ? code.length() : end).trim();
    }

    private static void methodsAreShort(String code) {
        Matcher m = Pattern.compile("(?m)^( {4,8})(?!.*\\bclass\\b)\\w.*\\) ?(throws \\w+ )?\\{$").matcher(code);
        int methods = 0;
        while (m.find()) {
            int end = code.indexOf("\n" + m.group(1) + "}", m.start());
            long lines = code.substring(m.start(), end).chars().filter(c -> c == '\n').count();
            Check.that("some sixty lines at most: " + m.group().trim(), lines <= 60);
            methods++;
        }
        Check.that("the methods are found", methods > 100);
    }
}
