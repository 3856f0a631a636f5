import java.nio.file.Files;
import java.nio.file.Path;
import java.util.regex.Matcher;
import java.util.regex.Pattern;

/** The rules of ../shared/LANGUAGE.md that can be seen from the text of the class. */
public final class LanguageTest {

    private static final String[] FORBIDDEN = {
        "\\bimport\\b", "\\bpackage\\b", "\\btry\\b", "\\bcatch\\b", "\\bfinally\\b", "\\bassert\\b", "\\bsynchronized\\b", "->",
        "::", "\\bequals\\b", "\\bhashCode\\b", "\\btoString\\b", "\\bSystem\\.(?!arraycopy)", "\\bMath\\.(?!max|min|abs)",
        "\\bprotected\\b", "\\bThread\\b", "\\bRandom\\b", "\\bObject\\b", "static \\{"
    };

    public static void main(String[] args) throws Exception {
        Check check = new Check("LanguageTest");
        String source = Files.readString(Path.of("src/main/java/TypebarMachine.java"));
        String code = source.replaceAll("(?s)/\\*.*?\\*/", "").replaceAll("//[^\n]*", "").replaceAll("\"[^\"]*\"", "\"\"");
        for (String forbidden : FORBIDDEN) {
            check.is(forbidden, Pattern.compile(forbidden).matcher(code).results().count(), 0L);
        }
        Matcher statics = Pattern.compile("static (?!final )(\\w+)(\\[\\])* \\w+( =|;)").matcher(code);
        check.is("rule 5: static fields that are not final", statics.results().count(), 0L);
        Matcher thrown = Pattern.compile("throw (?!new (IllegalState|IllegalArgument|IndexOutOfBounds)Exception\\(\"\"\\);)").matcher(code);
        check.is("rule 6: other throws", thrown.results().count(), 0L);
        Matcher classes = Pattern.compile("(class|interface|enum|record) \\w+ \\{").matcher(code);
        check.is("rule 11: at most twelve classes", classes.results().count() <= 12, true);
        check.is("rule 11: methods of at most sixty lines", longestMethod(source) <= 60, true);
        check.is("rule 3: characters of 0 to 127", source.chars().allMatch(c -> c < 128), true);
        check.end();
    }

    /** A method ends at the bracket that stands as far to the right as its head. */
    private static int longestMethod(String source) {
        int longest = 0;
        int from = 0;
        String end = "";
        String[] lines = source.split("\n");
        for (int i = 0; i < lines.length; i++) {
            String indent = lines[i].substring(0, lines[i].length() - lines[i].stripLeading().length());
            if (end.isEmpty() && lines[i].matches("( {4}| {8})[\\w\\[\\] ]+\\(.*")) {
                from = i;
                end = indent + "}";
            }
            if (!end.isEmpty() && lines[i].equals(end)) {
                longest = Math.max(longest, i - from + 1);
                end = "";
            }
        }
        return longest;
    }
}
