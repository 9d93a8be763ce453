import java.io.IOException;
import java.lang.reflect.Method;
import java.nio.file.Files;
import java.nio.file.Path;
import java.util.regex.Matcher;
import java.util.regex.Pattern;

/** What README.md shows holds: its town is told, and each of its calls answers what stands behind it. */
public final class ReadmeTest {
    private static final Pattern TOWN = Pattern.compile("```text\n(.*?)```", Pattern.DOTALL);
    private static final Pattern CALL = Pattern.compile("\nx\\.(\\w+)\\(([-0-9, ]*)\\); *// (-?[0-9]+): ");

    public static void main(String[] args) throws IOException, ReflectiveOperationException {
        String page = Files.readString(Path.of("README.md"));
        Matcher town = TOWN.matcher(page);
        Check.yes("README.md shows a town", town.find());
        BellMoney x = Tell.town(town.group(1));
        int calls = 0;
        Matcher call = CALL.matcher(page);
        while (call.find()) {
            calls++;
            Check.same("README.md: " + call.group().trim(), answer(x, call.group(1), call.group(2)),
                    Long.parseLong(call.group(3)));
        }
        Check.same("calls that README.md shows", calls, 19);
        Check.yes("README.md shows the one command", page.contains("\n    bash .ci/run\n"));
        refusals(page);
        Check.end();
    }

    private static long answer(BellMoney x, String name, String given) throws ReflectiveOperationException {
        String[] numbers = given.isEmpty() ? new String[0] : given.split(", *");
        for (Method method : BellMoney.class.getDeclaredMethods()) {
            if (method.getName().equals(name) && method.getParameterCount() == numbers.length) {
                Object[] all = new Object[numbers.length];
                for (int i = 0; i < all.length; i++) {
                    boolean wide = method.getParameterTypes()[i] == long.class;
                    all[i] = wide ? (Object) Long.valueOf(numbers[i]) : (Object) Integer.valueOf(numbers[i]);
                }
                return ((Number) method.invoke(x, all)).longValue();
            }
        }
        Check.yes("there is no " + name + "(" + given + ")", false);
        return 0;
    }

    private static void refusals(String page) {
        for (int answer = -8; answer <= -1; answer++) {
            Check.yes("README.md tells of " + answer, page.contains("\n| " + answer + " "));
        }
        Check.yes("README.md tells of rest's own", page.contains("\n| -4,000,000,000,000,000,000 |"));
    }
}
