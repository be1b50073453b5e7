import java.io.IOException;
import java.lang.reflect.Method;
import java.nio.file.Files;
import java.nio.file.Path;
import java.util.regex.Matcher;
import java.util.regex.Pattern;

/** The example in README.md: each call in it answers what the comment behind it begins with. */
public final class ReadmeTest {
    private static final Pattern CALL = Pattern.compile("group\\.(\\w+)\\(([-0-9, ]*)\\); +// (-?\\d+|true|false):.*");
    private static final int GROUP = 3;

    public static void main(String[] args) throws IOException, ReflectiveOperationException {
        GroupCast group = new GroupCast(GROUP);
        int calls = 0;
        int understood = 0;
        boolean made = false;
        for (String line : Files.readAllLines(Path.of("README.md"))) {
            made |= line.startsWith("GroupCast group = new GroupCast(" + GROUP + ");");
            if (line.startsWith("group.")) {
                calls++;
                Matcher call = CALL.matcher(line);
                if (call.matches()) {
                    understood++;
                    Check.due("README.md: " + line.trim(), answer(group, call.group(1), call.group(2)),
                        number(call.group(3)));
                }
            }
        }
        Check.due("README.md: its group is made as here", made, true);
        Check.due("README.md: there are calls", calls > 0, true);
        Check.due("README.md: calls with an answer", understood, calls);
        Check.end();
    }

    private static long answer(GroupCast group, String name, String arguments) throws ReflectiveOperationException {
        String[] words = arguments.split(", *");
        Class<?>[] types = new Class<?>[words.length];
        Object[] values = new Object[words.length];
        for (int i = 0; i < words.length; i++) {
            types[i] = int.class;
            values[i] = Integer.valueOf(words[i].trim());
        }
        Method method = GroupCast.class.getMethod(name, types);
        return number(method.invoke(group, values).toString());
    }

    private static long number(String answer) {
        return answer.equals("true") ? 1 : answer.equals("false") ? 0 : Long.parseLong(answer);
    }
}
