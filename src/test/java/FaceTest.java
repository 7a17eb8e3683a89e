import java.lang.reflect.Constructor;
import java.lang.reflect.Field;
import java.lang.reflect.Method;
import java.lang.reflect.Modifier;
import java.nio.file.Files;
import java.nio.file.Path;
import java.util.Set;
import java.util.TreeSet;
import java.util.regex.Matcher;
import java.util.regex.Pattern;

/** The public face of the document, and those rules of LANGUAGE.md that members and words show. */
public final class FaceTest {
    private static final Set<String> FACE = Set.of(
        "int variables()", "int parents(int, int)", "int enter(int, int, int, int)", "int sow(int, int)",
        "int observe(int, int)", "int parentsOf(int)", "int weight(int)", "long total()",
        "long totalWith(int, int)", "long totalPair(int, int, int, int)", "int best()", "int bestNumber()",
        "int bestWith(int, int)", "int separated(int, int)", "int independent(int, int)", "int blanket(int)");
    private static final Set<Class<?>> NUMBERS = Set.of(
        int.class, long.class, short.class, byte.class, char.class, boolean.class);
    private static int wrong = 0;

    public static void main(String[] args) throws Exception {
        checkClass();
        checkMethods();
        checkFields();
        checkWords();
        System.out.println(wrong == 0 ? "the face is as due" : wrong + " things are not as due");
        if (wrong != 0) {
            System.exit(1);
        }
    }

    private static void due(String what, boolean holds) {
        if (!holds) {
            wrong++;
            System.out.println("does not hold: " + what);
        }
    }

    private static void checkClass() {
        int modifiers = BayesFactors.class.getModifiers();
        due("public class", Modifier.isPublic(modifiers));
        due("final class", Modifier.isFinal(modifiers));
        due("no nested class", BayesFactors.class.getDeclaredClasses().length == 0);
        due("no package", BayesFactors.class.getPackageName().isEmpty());
        due("no superclass but Object", BayesFactors.class.getSuperclass() == Object.class);
        due("no interface", BayesFactors.class.getInterfaces().length == 0);
        Constructor<?>[] constructors = BayesFactors.class.getDeclaredConstructors();
        due("one constructor", constructors.length == 1);
        due("public constructor", constructors[0].toString().equals("public BayesFactors(int)"));
    }

    private static String signature(Method method) {
        StringBuilder text = new StringBuilder(method.getReturnType() + " " + method.getName() + "(");
        for (Class<?> type : method.getParameterTypes()) {
            text.append(text.charAt(text.length() - 1) == '(' ? "" : ", ").append(type);
        }
        return text.append(")").toString();
    }

    private static void checkMethods() {
        Set<String> open = new TreeSet<>();
        Set<String> openNames = new TreeSet<>();
        for (Method method : BayesFactors.class.getDeclaredMethods()) {
            if (!Modifier.isPrivate(method.getModifiers())) {
                open.add(signature(method));
                openNames.add(method.getName());
                due(method + " is public and not static", method.getModifiers() == Modifier.PUBLIC);
            }
        }
        due("the methods are those of the document: " + open, open.equals(new TreeSet<>(FACE)));
        for (Method method : BayesFactors.class.getDeclaredMethods()) {
            boolean hidden = Modifier.isPrivate(method.getModifiers());
            due(method + " has no public name", !hidden || !openNames.contains(method.getName()));
            due(method + " has at most seven parameters", method.getParameterCount() <= 7);
            due(method + " answers no array", !method.getReturnType().isArray());
        }
    }

    private static void checkFields() {
        int fields = 0;
        for (Field field : BayesFactors.class.getDeclaredFields()) {
            Class<?> type = field.getType();
            due(field + " is private", Modifier.isPrivate(field.getModifiers()));
            if (Modifier.isStatic(field.getModifiers())) {
                due(field + " is a constant", Modifier.isFinal(field.getModifiers()));
                due(field + " is int or long", type == int.class || type == long.class);
            } else {
                fields++;
                due(field + " is a number or a row of numbers",
                    NUMBERS.contains(type) || type.isArray() && NUMBERS.contains(type.getComponentType()));
            }
        }
        due("at most forty fields", fields <= 40);
    }

    private static void checkWords() throws Exception {
        String text = Files.readString(Path.of("src/main/java/BayesFactors.java"));
        String code = text.replaceAll("(?s)/\\*.*?\\*/", " ").replaceAll("//[^\n]*", " ");
        String banned = "\\b(import|package|throw|throws|try|catch|finally|synchronized|assert|instanceof|null|float"
            + "|double|String|System|Math|Integer|Long|Arrays|Object|var|interface|enum|record|protected|volatile"
            + "|native|equals|hashCode|toString|getClass|wait|notify|clone)\\b|->|::|\"|'|@|\\[\\]\\s*\\[";
        Matcher found = Pattern.compile(banned).matcher(code);
        while (found.find()) {
            due("no '" + found.group() + "' in the class", false);
        }
        Matcher made = Pattern.compile("[^\n]*\\bnew\\b[^\n]*").matcher(code);
        while (made.find()) {
            due("made in a field's initialiser: " + made.group().trim(),
                made.group().matches("    private final \\w+\\[\\] \\w+ = new \\w+\\[[A-Z_]+\\];"));
        }
    }
}
