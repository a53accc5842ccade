import java.lang.reflect.Method;
import java.lang.reflect.Modifier;
import java.nio.file.Files;
import java.nio.file.Path;
import java.util.regex.Matcher;
import java.util.regex.Pattern;

/** README.md: each line of its example answers as it says, and its table tells every call there is. */
public final class ReadmeTest {
    private static final Due due = new Due();
    private static final Pattern TYPED = Pattern.compile("for \\(char sign : \"(.*)\"\\.toCharArray\\(\\)\\) x\\.type\\((\\d), sign\\);.*");
    private static final Pattern ASKED = Pattern.compile("x\\.(\\w+)\\((.*)\\); *// (-?\\d+): .*");

    public static void main(String[] args) throws Exception {
        String readme = Files.readString(Path.of("README.md"));
        for (Method method : SoundPaid.class.getDeclaredMethods()) {
            if (!Modifier.isPublic(method.getModifiers())) continue;
            due.is("tells " + method.getName(), readme.contains("`" + method.getName() + "()`") ? 1 : 0, 1);
        }
        String example = readme.replaceFirst("(?s).*?```java\n", "").replaceFirst("(?s)```.*", "");
        SoundPaid x = new SoundPaid();
        for (String line : example.split("\n")) {
            if (line.equals("SoundPaid x = new SoundPaid();")) continue;
            Matcher typed = TYPED.matcher(line);
            Matcher asked = ASKED.matcher(line);
            if (typed.matches()) Due.type(x, Integer.parseInt(typed.group(2)), typed.group(1));
            else if (asked.matches()) ask(x, asked.group(1), asked.group(2), Long.parseLong(asked.group(3)));
            else due.is("can be read: " + line, 0, 1);
        }
        due.end();
    }

    private static void ask(SoundPaid x, String name, String numbers, long told) throws Exception {
        String[] parts = numbers.isEmpty() ? new String[0] : numbers.split(", ");
        Class<?>[] types = new Class<?>[parts.length];
        Object[] given = new Object[parts.length];
        for (int i = 0; i < parts.length; i++) {
            types[i] = int.class;
            given[i] = Integer.parseInt(parts[i]);
        }
        Number answer = (Number) SoundPaid.class.getMethod(name, types).invoke(x, given);
        due.is(name + "(" + numbers + ")", answer.longValue(), told);
    }
}
