import java.io.IOException;
import java.lang.reflect.InvocationTargetException;
import java.lang.reflect.Method;
import java.lang.reflect.Modifier;
import java.nio.file.Files;
import java.nio.file.Path;
import java.util.List;
import java.util.NoSuchElementException;
import java.util.regex.Matcher;
import java.util.regex.Pattern;
import java.util.stream.Stream;

/** What README.md says of the class's use is so: its calls answer as it tells, the calls, tests and files it names are there. */
public final class ReadmeTest {
    private static final Pattern MAKING = Pattern.compile("RefundDesk desk = new RefundDesk\\(\\);");
    private static final Pattern CALL = Pattern.compile("desk\\.(\\w+)\\(([^()]*)\\);\\s+// (-?\\d+|NoSuchElementException)\\b.*");
    private static final Pattern FILE = Pattern.compile("(?:src/|\\.\\./shared/|\\.ci/)[\\w./]*\\w");
    private static int wrong;
    private static int asked;

    public static void main(String[] args) throws Exception {
        Path root = Path.of(args.length > 0 ? args[0] : ".");
        List<String> lines = Files.readAllLines(root.resolve("README.md"));
        String page = String.join("\n", lines);
        session(lines);
        names(page, root);
        System.out.println(asked + " calls of README.md, " + wrong + " faults");
        if (wrong != 0 || asked < 30) {
            System.exit(1);
        }
    }

    private static void fault(String what) {
        wrong++;
        System.out.println(what);
    }

    private static void session(List<String> lines) throws IllegalAccessException {
        RefundDesk desk = null;
        boolean inside = false;
        for (String line : lines) {
            if (line.startsWith("```")) {
                inside = line.equals("```java");
            } else if (inside && MAKING.matcher(line).matches()) {
                desk = new RefundDesk();
            } else if (inside) {
                Matcher call = CALL.matcher(line);
                if (desk == null || !call.matches()) {
                    fault("not a call with its answer: " + line);
                } else {
                    ask(desk, call, line);
                }
            }
        }
    }

    private static void ask(RefundDesk desk, Matcher call, String line) throws IllegalAccessException {
        asked++;
        String answer = "there is no such call";
        for (Method method : RefundDesk.class.getDeclaredMethods()) {
            if (Modifier.isPublic(method.getModifiers()) && method.getName().equals(call.group(1))) {
                answer = answerOf(desk, method, call.group(2));
            }
        }
        if (!answer.equals(call.group(3))) {
            fault(line + " -- the answer is " + answer);
        }
    }

    private static String answerOf(RefundDesk desk, Method method, String told) throws IllegalAccessException {
        String[] numbers = told.isEmpty() ? new String[0] : told.split(", ");
        Class<?>[] kinds = method.getParameterTypes();
        if (numbers.length != kinds.length) {
            return "not so many numbers";
        }
        Object[] given = new Object[numbers.length];
        for (int i = 0; i < numbers.length; i++) {
            long number = Long.decode(numbers[i].replace("L", ""));
            if (kinds[i] == long.class) {
                given[i] = number;
            } else {
                given[i] = (int) number;
            }
        }
        try {
            return String.valueOf(method.invoke(desk, given));
        } catch (InvocationTargetException e) {
            return e.getCause() instanceof NoSuchElementException ? "NoSuchElementException" : "thrown: " + e.getCause();
        }
    }

    private static void names(String page, Path root) throws IOException {
        for (Method method : RefundDesk.class.getDeclaredMethods()) {
            if (Modifier.isPublic(method.getModifiers()) && !tells(page, method)) {
                fault("README.md does not name " + method);
            }
        }
        for (Class<?> inside : RefundDesk.class.getDeclaredClasses()) {
            if (!page.contains("`" + inside.getSimpleName() + "`")) {
                fault("README.md does not name the class " + inside.getSimpleName());
            }
        }
        try (Stream<Path> tests = Files.list(root.resolve("src/test/java"))) {
            for (Path test : tests.toList()) {
                if (!page.contains("`" + test.getFileName().toString().replace(".java", "") + "`")) {
                    fault("README.md does not name " + test);
                }
            }
        }
        Matcher file = FILE.matcher(page);
        while (file.find()) {
            if (!Files.exists(root.resolve(file.group()))) {
                fault("README.md names what is not there: " + file.group());
            }
        }
    }

    /** In the table a call stands with as many names as it takes numbers. */
    private static boolean tells(String page, Method method) {
        Matcher call = Pattern.compile("`" + method.getName() + "\\(([^()]*)\\)`").matcher(page);
        while (call.find()) {
            int names = call.group(1).isEmpty() ? 0 : call.group(1).split(", ").length;
            if (names == method.getParameterCount()) {
                return true;
            }
        }
        return false;
    }
}
