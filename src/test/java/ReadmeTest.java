import java.lang.reflect.Method;
import java.lang.reflect.Modifier;
import java.nio.file.Files;
import java.nio.file.Path;
import java.util.regex.Matcher;
import java.util.regex.Pattern;

/** README.md shows calls with their answers: each is made here, so that none can become untrue. */
public final class ReadmeTest {

    private static final Pattern SHOWN = Pattern.compile("x\\.(\\w+)\\((.*)\\); +// (-?\\d+)(:.*)?");

    private static int checks = 0;
    private static int wrong = 0;

    private static void due(String what, Object got, Object due) {
        checks++;
        if (got.equals(due)) return;
        wrong++;
        System.out.println("README.md, " + what + ": " + got + ", due is " + due);
    }

    private static Method method(String name) {
        for (Method method : SaidTwice.class.getDeclaredMethods()) {
            if (Modifier.isPublic(method.getModifiers()) && method.getName().equals(name)) return method;
        }
        throw new IllegalArgumentException("no method " + name);
    }

    /** Numbers, and letters between single quotes. */
    private static Object[] arguments(String told) {
        if (told.isEmpty()) return new Object[0];
        String[] parts = told.split(", ");
        Object[] found = new Object[parts.length];
        for (int i = 0; i < parts.length; i++) {
            found[i] = parts[i].startsWith("'") ? parts[i].charAt(1) : Integer.parseInt(parts[i]);
        }
        return found;
    }

    private static void makeCalls(String readme) throws Exception {
        SaidTwice x = new SaidTwice();
        int shown = 0;
        for (String line : readme.split("\n")) {
            if (!line.startsWith("x.")) continue;
            Matcher call = SHOWN.matcher(line);
            due("is a call with its answer: " + line, call.matches(), true);
            if (!call.matches()) continue;
            Object got = method(call.group(1)).invoke(x, arguments(call.group(2)));
            due(line, ((Number) got).longValue(), Long.parseLong(call.group(3)));
            shown++;
        }
        due("calls shown", shown > 0, true);
    }

    private static void nameMethods(String readme) {
        for (Method method : SaidTwice.class.getDeclaredMethods()) {
            if (!Modifier.isPublic(method.getModifiers())) continue;
            due("names " + method.getName(), readme.contains("`" + method.getName() + "`"), true);
        }
    }

    private static void nameTests(String readme) throws Exception {
        try (var files = Files.list(Path.of("src/test/java"))) {
            for (Path file : files.sorted().toList()) {
                String name = file.getFileName().toString().replace(".java", "");
                due("names " + name, readme.contains("`" + name + "`"), true);
            }
        }
    }

    public static void main(String[] arguments) throws Exception {
        String readme = Files.readString(Path.of("README.md"));
        makeCalls(readme);
        nameMethods(readme);
        nameTests(readme);
        System.out.println("readme: " + checks + " checks, " + wrong + " not as due");
        if (wrong != 0) System.exit(1);
    }
}
