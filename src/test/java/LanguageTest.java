import java.nio.file.Files;
import java.nio.file.Path;
import java.util.List;
import java.util.regex.Matcher;
import java.util.regex.Pattern;

/** Rules of LANGUAGE.md that can be read off the source: words, imports, numbers of lines and of parameters. */
public final class LanguageTest {
    private static final Due due = new Due();
    private static final String[] REFUSED = {"\\bthrows?\\b", "\\btry\\b", "\\bcatch\\b", "\\bsynchronized\\b",
        "\\bassert\\b", "->", "::", "\\bvar\\b", "\\bObject\\b", "\\bhashCode\\b", "\\btoString\\b", "\\bSystem\\.(?!arraycopy)",
        "\\bMath\\.\\w*Exact\\b", "\\bpackage\\b", "\\bnative\\b", "\\bThread\\b", "\\bwhile\\b", "@", "\\bstatic\\s*\\{"};

    public static void main(String[] args) throws Exception {
        String source = Files.readString(Path.of("src/main/java/SoundPaid.java"));
        for (char sign : source.toCharArray()) {
            if (sign > 127 || sign == '\t' || sign == '\r') due.is("a sign of the source", sign, ' ');
        }
        String code = source.replaceAll("(?s)/\\*.*?\\*/", "").replaceAll("//[^\n]*", "");
        for (String refused : REFUSED) {
            Matcher found = Pattern.compile(refused).matcher(code);
            due.is("places of " + refused, found.results().count(), 0);
        }
        due.is("imports", Pattern.compile("(?m)^import (?!java\\.util\\.(Arrays|ArrayList|List|Iterator);)").matcher(code)
            .results().count(), 0);
        long classes = Pattern.compile("\\b(class|record|enum|interface) [A-Z]").matcher(code).results().count();
        due.is("at most twelve classes", Math.max(classes, 12), 12);
        methods(List.of(source.split("\n")));
        due.end();
    }

    /** By the file's own indent: a method's first line ends with { at 4 or 8 signs, its last is } at the same. */
    private static void methods(List<String> lines) {
        for (int first = 0; first < lines.size(); first++) {
            Matcher head = Pattern.compile("^( {4}| {8})(?=\\w)[\\w<>\\[\\] ]+\\((.*)\\) \\{$").matcher(lines.get(first));
            if (!head.matches() || lines.get(first).matches("^ *(if|for|switch|else)\\b.*")) continue;
            int last = first;
            while (!lines.get(last).equals(head.group(1) + "}")) last++;
            due.is("line " + first + " begins more than 60 lines", Math.max(last - first + 1, 60), 60);
            due.is("line " + first + " more than 7 parameters", Math.max(head.group(2).split(",").length, 7), 7);
        }
    }
}
