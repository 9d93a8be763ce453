import java.io.IOException;
import java.lang.reflect.Method;
import java.lang.reflect.Modifier;
import java.nio.file.Files;
import java.nio.file.Path;
import java.util.HashSet;
import java.util.Set;
import java.util.regex.Matcher;
import java.util.regex.Pattern;

/** The public face, and those rules of LANGUAGE.md that a look at the text can tell. */
public final class FaceTest {
    private static final String[] BANNED = {"\\bthrow\\b", "\\btry\\b", "\\bcatch\\b", "\\bsynchronized\\b",
        "\\bassert\\b", "->", "::", "\\bimport (?!java.util.Arrays;)", "\\bpackage\\b", "\\bprotected\\b", "Exact\\(", "\\bSystem\\.(?!arraycopy)",
        "\\bdouble\\b", "\\bfloat\\b", "\\bvar\\b", "\\bstatic \\{", "\\bhashCode\\b", "\\btoString\\b", "while \\(true\\)"};

    public static void main(String[] args) throws IOException {
        face();
        text();
        Check.end();
    }

    private static void face() {
        Set<String> names = new HashSet<>();
        int open = 0;
        for (Method method : BellMoney.class.getDeclaredMethods()) {
            if (Modifier.isPublic(method.getModifiers())) {
                open++;
                names.add(method.getName());
            }
        }
        Check.same("public methods", open, 63);
        Check.same("their names", names.size(), 63);
        for (Method method : BellMoney.class.getDeclaredMethods()) {
            boolean free = Modifier.isPublic(method.getModifiers()) || !names.contains(method.getName());
            Check.yes("no private method bears a public name: " + method, free);
        }
        for (Class<?> inside : BellMoney.class.getDeclaredClasses()) {
            Check.yes("static: " + inside, Modifier.isStatic(inside.getModifiers()));
            for (Method method : inside.getDeclaredMethods()) {
                Check.yes("no public name inside: " + method, !names.contains(method.getName()));
                Check.yes("at most seven parameters: " + method, method.getParameterCount() <= 7);
            }
            Check.yes("some twenty fields: " + inside, inside.getDeclaredFields().length <= 20);
        }
        Check.yes("some twelve classes", BellMoney.class.getDeclaredClasses().length <= 11);
        Check.same("public constructors", BellMoney.class.getConstructors().length, 1);
        Check.same("public fields", BellMoney.class.getFields().length, 1);
        Check.yes("final", Modifier.isFinal(BellMoney.class.getModifiers()));
    }

    private static void text() throws IOException {
        String all = Files.readString(Path.of("src/main/java/BellMoney.java"));
        String code = all.replaceAll("(?s)/\\*.*?\\*/", "").replaceAll("//.*", "");
        for (String banned : BANNED) {
            Matcher found = Pattern.compile(banned).matcher(code);
            Check.yes("not in the program: " + banned, !found.find());
        }
        Check.yes("ASCII", all.chars().allMatch(sign -> sign < 128));
    }
}
