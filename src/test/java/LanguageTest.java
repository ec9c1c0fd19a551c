import java.lang.reflect.Constructor;
import java.lang.reflect.Field;
import java.lang.reflect.Method;
import java.lang.reflect.Modifier;
import java.nio.file.Files;
import java.nio.file.Path;
import java.util.List;
import java.util.Set;
import java.util.TreeSet;
import java.util.regex.Matcher;
import java.util.regex.Pattern;

/** The public face, and those rules of LANGUAGE.md that can be seen in the text or in the compiled class. */
public final class LanguageTest {
    private static final Due DUE = new Due("LanguageTest");

    private static final List<String> FACE = List.of(
            "int feed(int,long)", "int town()", "int fault()", "int told(int)", "int count(int)", "int friends(int)",
            "int alike(int)", "int pair(int,int)", "int tie(int,int,boolean)", "int bar(int,int,int)", "int birth()",
            "int death(int)", "int made(int,int,int,int)", "int good(int)", "int born()", "int dies(int)",
            "int nearest(int)", "int even(int,int)", "int tell(int,int)", "int canBe()", "int sure(int,int)",
            "int liar()", "int weight(int,int)", "int sides(int,int)", "int sorts(int)",
            "int write(int,int,boolean)", "int tear()", "int judge(int)", "int drift(int)", "int seed(int)",
            "int keep(int)", "int goBack(int)");

    private static final List<String> CONSTANTS = List.of("NONE", "UNKNOWN", "OUTSIDE", "NOT", "FULL");

    public static void main(String[] args) throws Exception {
        face();
        classesInside();
        words(Files.readString(Path.of("src/main/java/UnlikeCounts.java")));
        DUE.end();
    }

    private static String signed(Method method) {
        StringBuilder s = new StringBuilder();
        s.append(method.getReturnType().getSimpleName()).append(' ').append(method.getName()).append('(');
        for (Class<?> type : method.getParameterTypes()) {
            s.append(s.charAt(s.length() - 1) == '(' ? "" : ",").append(type.getSimpleName());
        }
        return s.append(')').toString();
    }

    // Rule 1
    private static void face() {
        Set<String> methods = new TreeSet<>();
        for (Method method : UnlikeCounts.class.getDeclaredMethods()) {
            if (!Modifier.isPrivate(method.getModifiers())) {
                methods.add(signed(method));
                DUE.is("modifiers of " + method, method.getModifiers(), Modifier.PUBLIC);
            }
        }
        DUE.holds("the methods are the document's: " + methods, methods.equals(new TreeSet<>(FACE)));
        Set<String> constants = new TreeSet<>();
        for (Field field : UnlikeCounts.class.getDeclaredFields()) {
            if (!Modifier.isPrivate(field.getModifiers())) {
                constants.add(field.getName());
                DUE.is("modifiers of " + field, field.getModifiers(), Modifier.PUBLIC | Modifier.STATIC | Modifier.FINAL);
            }
        }
        DUE.holds("the constants are the document's: " + constants, constants.equals(new TreeSet<>(CONSTANTS)));
        Constructor<?>[] makers = UnlikeCounts.class.getDeclaredConstructors();
        DUE.is("constructors", makers.length, 1);
        DUE.is("its parameters", makers[0].getParameterCount(), 0);
        DUE.is("the class", UnlikeCounts.class.getModifiers(), Modifier.PUBLIC | Modifier.FINAL);
    }

    // Rules 1, 2, 5, 11
    private static void classesInside() {
        Class<?>[] inside = UnlikeCounts.class.getDeclaredClasses();
        DUE.holds("twelve classes at most", inside.length + 1 <= 12);
        checkClass(UnlikeCounts.class);
        for (Class<?> one : inside) {
            DUE.holds(one + " is static", Modifier.isStatic(one.getModifiers()));
            DUE.is("classes inside " + one, one.getDeclaredClasses().length, 0);
            checkClass(one);
            for (Method method : one.getDeclaredMethods()) {
                for (String known : FACE) {
                    DUE.holds(method + " has a name of the face", !known.contains(" " + method.getName() + "("));
                }
            }
        }
    }

    private static void checkClass(Class<?> one) {
        int fields = 0;
        for (Field field : one.getDeclaredFields()) {
            if (Modifier.isStatic(field.getModifiers())) {
                DUE.holds(field + " is final", Modifier.isFinal(field.getModifiers()));
            } else {
                fields++;
            }
        }
        DUE.holds(one + " has twenty fields at most", fields <= 20);
        for (Method method : one.getDeclaredMethods()) {
            DUE.holds(method + " has seven parameters at most", method.getParameterCount() <= 7);
        }
    }

    // Rules 2, 4, 6, 10
    private static void words(String source) {
        String code = source.replaceAll("(?s)/\\*.*?\\*/", " ").replaceAll("//[^\n]*", " ");
        String[] barred = {"throw", "throws", "try", "catch", "finally", "synchronized", "assert", "native", "import",
            "package", "protected", "volatile", "transient", "null", "Object", "Math\\.\\w+Exact", "System", "->", "::",
            "hashCode", "toString", "@\\w+", "static \\{", "MAX_VALUE", "MIN_VALUE"};
        for (String word : barred) {
            String pattern = Character.isLetter(word.charAt(0)) ? "\\b" + word + "\\b" : word;
            Matcher found = Pattern.compile(pattern).matcher(code);
            DUE.holds("'" + word + "' in the source", !found.find());
        }
        DUE.holds("signs of 1 to 127 alone", source.chars().allMatch(c -> c > 0 && c < 128));
        for (String method : code.split("\n    (    )?\\}\n")) {
            DUE.holds("sixty lines at most: " + method.strip().lines().findFirst().orElse(""),
                    method.strip().lines().count() <= 60);
        }
    }
}
