import java.io.IOException;
import java.lang.reflect.Constructor;
import java.lang.reflect.Field;
import java.lang.reflect.Method;
import java.lang.reflect.Modifier;
import java.nio.file.Files;
import java.nio.file.Path;
import java.util.Arrays;
import java.util.List;
import java.util.Set;
import java.util.TreeSet;
import java.util.regex.Matcher;
import java.util.regex.Pattern;

/** The public face is the document's, no more and no less; and of LANGUAGE.md what can be seen from the lines. */
public final class FaceTest {
    private static final String FACE = "int feed(int, int, int, int, int); boolean end(int); int fault(int); int text(int); int rule(int);"
        + " int rate(int, int) throws; int year(int, int); long costs(int, int, int); int best(int, int); int up(); int down(); int call();"
        + " int refund(); int withdraw(); int instal(int, int); int tell(int, int, int); int doBest(); int adopt(); int follow();"
        + " int years(int, long); int status(int); int undo(); int log(int, int); int way(int, int); int mass(int, int); int masses(int);"
        + " long worth(); long margin(); int till(); int edge(int); int fair(); int ending(int, int); long saved(); int sums(int);"
        + " int deed(int, int); long byPolicy(int, int); long regret(); int strays(int); int mended(int, int); int rounds();"
        + " long shifted(int); int spread(int); int step(int, int, int); int run(int, int); int perform(int); int most(int); int image();"
        + " int back(); int count(int)";
    private static int wrong;

    public static void main(String[] args) throws IOException {
        Set<String> names = methods();
        fields();
        classes(names);
        source(args.length > 0 ? args[0] : ".", names);
        System.out.println(wrong == 0 ? "the face is the document's" : wrong + " faults of the face");
        if (wrong != 0) {
            System.exit(1);
        }
    }

    private static void fault(String what) {
        wrong++;
        System.out.println(what);
    }

    private static Set<String> methods() {
        Set<String> want = new TreeSet<>(Arrays.asList(FACE.split("; ")));
        Set<String> found = new TreeSet<>();
        Set<String> names = new TreeSet<>();
        for (Method method : RefundDesk.class.getDeclaredMethods()) {
            if (Modifier.isPrivate(method.getModifiers())) {
                continue;
            }
            StringBuilder line = new StringBuilder(method.getReturnType() + " " + method.getName() + "(");
            for (Class<?> kind : method.getParameterTypes()) {
                line.append(line.charAt(line.length() - 1) == '(' ? "" : ", ").append(kind);
            }
            found.add(line.append(method.getExceptionTypes().length > 0 ? ") throws" : ")").toString());
            names.add(method.getName());
        }
        if (!want.equals(found)) {
            fault("due are " + want + "\nfound are " + found);
        }
        if (!Modifier.isFinal(RefundDesk.class.getModifiers()) || !Modifier.isPublic(RefundDesk.class.getModifiers())) {
            fault("the class is not public and final");
        }
        Constructor<?>[] makers = RefundDesk.class.getDeclaredConstructors();
        if (makers.length != 1 || !Modifier.isPublic(makers[0].getModifiers()) || makers[0].getParameterCount() != 0) {
            fault("not the constructor of the document");
        }
        return names;
    }

    private static void fields() {
        for (Field field : RefundDesk.class.getDeclaredFields()) {
            boolean told = field.getName().equals("NONE") || field.getName().equals("HIDDEN");
            if (told != Modifier.isPublic(field.getModifiers()) || !told && !Modifier.isPrivate(field.getModifiers())) {
                fault("a field that the face does not have: " + field);
            }
        }
        if (RefundDesk.NONE != -1 || RefundDesk.HIDDEN != -1000000) {
            fault("the constants");
        }
    }

    private static void classes(Set<String> names) {
        Class<?>[] inside = RefundDesk.class.getDeclaredClasses();
        for (Class<?> one : inside) {
            if (!Modifier.isStatic(one.getModifiers()) || Modifier.isPublic(one.getModifiers())) {
                fault("a class that is not private and static: " + one);
            }
            int fields = 0;
            for (Field field : one.getDeclaredFields()) {
                fields += Modifier.isStatic(field.getModifiers()) ? 0 : 1;
                if (Modifier.isStatic(field.getModifiers()) && !Modifier.isFinal(field.getModifiers())) {
                    fault("static and not final: " + field);
                }
            }
            if (fields > 20) {
                fault("too many fields: " + one);
            }
            for (Method method : one.getDeclaredMethods()) {
                if (names.contains(method.getName())) {
                    fault("bears the name of a public method: " + method);
                }
                if (method.getParameterCount() > 7) {
                    fault("too many parameters: " + method);
                }
            }
        }
        for (Method method : RefundDesk.class.getDeclaredMethods()) {
            if (Modifier.isPrivate(method.getModifiers()) && (names.contains(method.getName()) || method.getParameterCount() > 7)) {
                fault("a private method's name or parameters: " + method);
            }
        }
        if (inside.length > 12) {
            fault("too many classes");
        }
    }

    private static void source(String root, Set<String> names) throws IOException {
        List<String> lines = Files.readAllLines(Path.of(root, "src/main/java/RefundDesk.java"));
        String[] banned = {"->", "::", "try", "catch", "finally", "synchronized", "assert", "System.out", "Exact", "static {", "\" +", "+ \"",
            "Integer.", "Long.", "Object", "null", "var ", "toString", "equals", "hashCode"};
        Pattern head = Pattern.compile("^( {4}| {8})(public|private|static|int|void|boolean|long|Table|[A-Z]\\w+\\()[^=;]*\\{$");
        int start = -1;
        String indent = "";
        for (int i = 0; i < lines.size(); i++) {
            String line = lines.get(i);
            String code = line.replaceAll("//.*", "").replaceAll("^\\s*/?\\*.*", "").replaceAll("/\\*\\*.*", "");
            for (String word : banned) {
                boolean letters = Character.isLetter(word.charAt(0)) && Character.isLetter(word.charAt(word.length() - 1));
                if (letters ? Pattern.compile("\\b" + word + "\\b").matcher(code).find() : code.contains(word)) {
                    fault("line " + (i + 1) + " has " + word);
                }
            }
            Matcher matcher = head.matcher(line);
            if (matcher.matches() && !line.contains(" class ")) {
                start = i;
                indent = matcher.group(1);
            }
            if (start >= 0 && line.equals(indent + "}")) {
                if (i - start > 60) {
                    fault("a long method at line " + (start + 1));
                }
                start = -1;
            }
            if (line.length() > 140 || line.contains("\t")) {
                fault("line " + (i + 1) + " is long or has a tab");
            }
        }
    }
}
