import java.nio.file.Files;
import java.nio.file.Path;
import java.util.HashMap;
import java.util.List;
import java.util.Map;
import java.util.Set;
import java.util.TreeSet;
import java.util.regex.Matcher;
import java.util.regex.Pattern;

/** Rules of LANGUAGE.md that can be read off the source: words, imports, numbers of lines, parameters, open calls. */
public final class LanguageTest {
    private static final Due due = new Due();
    /** Of each method of the class, by its name, the names of those that it calls. */
    private static final Map<String, Set<String>> called = new HashMap<>();
    private static final String[] REFUSED = {"\\bthrows?\\b", "\\btry\\b", "\\bcatch\\b", "\\bsynchronized\\b",
        "\\bassert\\b", "->", "::", "\\bvar\\b", "\\bObject\\b", "\\bhashCode\\b", "\\btoString\\b", "\\bSystem\\.(?!arraycopy)",
        "\\bMath\\.\\w*Exact\\b", "\\bpackage\\b", "\\bnative\\b", "\\bThread\\b", "\\bwhile\\b", "@", "\\bstatic\\s*\\{"};

    public static void main(String[] args) throws Exception {
        String source = Files.readString(Path.of("src/main/java/SoundPaid.java"));
        for (char sign : source.toCharArray()) {
            if (sign > 127 || sign == '\t' || sign == '\r') due.is("a sign of the source", sign, ' ');
        }
        String code = source.replaceAll("(?s)/\\*.*?\\*/", "").replaceAll("//[^\n]*", "");
        for (String refused : REFUSED) {
            Matcher found = Pattern.compile(refused).matcher(code);
            due.is("places of " + refused, found.results().count(), 0);
        }
        due.is("imports", Pattern.compile("(?m)^import (?!java\\.util\\.(Arrays|ArrayList|List|Iterator);)").matcher(code)
            .results().count(), 0);
        long classes = Pattern.compile("\\b(class|record|enum|interface) [A-Z]").matcher(code).results().count();
        due.is("at most twelve classes", Math.max(classes, 12), 12);
        methods(List.of(source.split("\n")));
        for (String method : called.keySet()) {
            due.is("calls open at once from " + method, Math.max(depth(method, new TreeSet<>()), 8), 8);
        }
        due.is("calls are read at all", depth("digest", new TreeSet<>()) > 3 ? 1 : 0, 1);
        due.end();
    }

    /** How many calls stand open at once, this one and the library's too; a call of one that is open is recursion. */
    private static int depth(String method, Set<String> open) {
        int most = 0;
        open.add(method);
        for (String next : called.getOrDefault(method, Set.of())) {
            if (!open.contains(next)) most = Math.max(most, depth(next, open));
        }
        open.remove(method);
        return 1 + most;
    }

    private static void noteCalls(String method, List<String> body) {
        Set<String> names = called.computeIfAbsent(method, name -> new TreeSet<>());
        Matcher call = Pattern.compile("\\b(?!if\\b|for\\b|switch\\b|while\\b)(\\w+)\\(").matcher(String.join("\n", body));
        while (call.find()) names.add(call.group(1));
    }

    /** By the file's own indent: a method's first line ends with { at 4 or 8 signs, its last is } at the same. */
    private static void methods(List<String> lines) {
        for (int first = 0; first < lines.size(); first++) {
            Matcher head = Pattern.compile("^( {4}| {8})(?=\\w)[\\w<>\\[\\] ]*?\\b(\\w+)\\((.*)\\) \\{$").matcher(lines.get(first));
            if (!head.matches() || lines.get(first).matches("^ *(if|for|switch|else)\\b.*")) continue;
            int last = first;
            while (!lines.get(last).equals(head.group(1) + "}")) last++;
            due.is("line " + first + " begins more than 60 lines", Math.max(last - first + 1, 60), 60);
            due.is("line " + first + " more than 7 parameters", Math.max(head.group(3).split(",").length, 7), 7);
            noteCalls(head.group(2), lines.subList(first + 1, last));
        }
    }
}
