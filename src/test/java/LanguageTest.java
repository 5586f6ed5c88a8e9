import java.lang.reflect.Field;
import java.lang.reflect.Method;
import java.lang.reflect.Modifier;
import java.nio.charset.StandardCharsets;
import java.nio.file.Files;
import java.nio.file.Path;
import java.util.ArrayList;
import java.util.List;
import java.util.Set;
import java.util.TreeSet;
import java.util.regex.Matcher;
import java.util.regex.Pattern;

/** Those rules of LANGUAGE.md that a program can look at; the numbers are the rules'. */
public final class LanguageTest {
    private static final Set<Class<?>> CONSTANTS =
            Set.of(int.class, long.class, boolean.class, char.class, String.class);
    private static final Set<Class<?>> FIELDS = Set.of(int.class, long.class, boolean.class, char.class, double.class,
            int[].class, char[].class, double[].class, double[][].class);
    private static final String[] WORDS = {"package", "protected", "synchronized", "assert", "finally", "volatile",
        "native", "transient", "Math", "StrictMath", "Double", "Float", "Object", "Objects", "Thread", "Random", "File",
        "record", "var", "getMessage", "hashCode", "NaN"};

    public static void main(String[] args) throws Exception {
        Check check = new Check();
        Path file = Path.of("src", "main", "java", "ConeForge.java");
        String source = Files.readString(file, StandardCharsets.UTF_8);
        String code = source.replaceAll("(?s)/\\*.*?\\*/|//[^\n]*|\"[^\"\n]*\"", "");
        words(check, code);
        throwing(check, source);
        lengths(check, code);
        classes(check);
        check.end();
    }

    /** Rules 3, 4, 6, 13. */
    private static void words(Check check, String code) {
        for (String word : WORDS) {
            check.same("4: the word " + word, Pattern.compile("\\b" + word + "\\b").matcher(code).find(), false);
        }
        check.same("2: a method reference", code.contains("::"), false);
        check.same("3: the remainder of a division", code.contains("%"), false);
        check.same("4: imports", found(code, "(?m)^import [^;]*;"), List.of("import java.util.Arrays;").toString());
        check.same("4: calls of System", found(code, "System\\.\\w+").replace("System.arraycopy", "")
                .replaceAll("[\\[\\], ]", ""), "");
        check.same("4: calls of Arrays", found(code, "Arrays\\.\\w+").replaceAll("Arrays(\\.fill|;)", "")
                .replaceAll("[\\[\\], ]", ""), "");
    }

    private static String found(String code, String pattern) {
        List<String> all = new ArrayList<>();
        Matcher matcher = Pattern.compile(pattern).matcher(code);
        while (matcher.find()) {
            all.add(matcher.group());
        }
        return all.toString();
    }

    /** Rule 6: an exception is made where it is thrown, with a written text or none. */
    private static void throwing(Check check, String source) {
        int fine = source.split("throw new (IllegalState|IllegalArgument|IndexOutOfBounds|Arithmetic)Exception"
                + "\\((\"[^\"\n]*\")?\\);", -1).length;
        check.same("6: throws of another form", source.split("\\bthrow\\b", -1).length, fine);
    }

    /** Rule 11: a method begins with a line that ends with a brace, indented by 4 or 8, and ends with one as deep. */
    private static void lengths(Check check, String code) {
        String[] lines = code.split("\n");
        for (int from = 0; from < lines.length; from++) {
            Matcher head = Pattern.compile("( {4}| {8})(public|private)[^;=]*\\(.*").matcher(lines[from]);
            if (head.matches()) {
                int to = from;
                while (!lines[to].equals(head.group(1) + "}")) {
                    to++;
                }
                check.same("11: at most 60 lines: " + lines[from].strip(), to - from < 60, true);
            }
        }
    }

    private static void classes(Check check) {
        Set<String> face = new TreeSet<>();
        for (Method method : ConeForge.class.getDeclaredMethods()) {
            if (Modifier.isPublic(method.getModifiers())) {
                face.add(method.getName());
            }
        }
        List<Class<?>> all = new ArrayList<>(List.of(ConeForge.class.getDeclaredClasses()));
        check.same("11: at most 12 classes", all.size() < 12, true);
        for (Class<?> inside : all) {
            check.same("1: static, not public: " + inside, inside.getModifiers() & (Modifier.STATIC | Modifier.PUBLIC
                    | Modifier.PROTECTED), Modifier.STATIC);
        }
        Set<Class<?>> own = Set.copyOf(all);
        all.add(ConeForge.class);
        for (Class<?> each : all) {
            fields(check, each, own);
            for (Method method : each.getDeclaredMethods()) {
                check.same("11: at most 7 parameters: " + method, method.getParameterCount() <= 7, true);
                check.same("1: another method with a name of the face: " + method,
                        face.contains(method.getName()) && !Modifier.isPublic(method.getModifiers()), false);
                check.same("2: a lambda: " + method, method.isSynthetic(), false);
            }
        }
    }

    /** Rules 3, 5 and 11. */
    private static void fields(Check check, Class<?> each, Set<Class<?>> own) {
        int held = 0;
        for (Field field : each.getDeclaredFields()) {
            boolean constant = Modifier.isStatic(field.getModifiers());
            held += constant ? 0 : 1;
            check.same("5: a static field is final: " + field,
                    !constant || Modifier.isFinal(field.getModifiers()), true);
            check.same("3, 5: its type: " + field, constant ? CONSTANTS.contains(field.getType())
                    : FIELDS.contains(field.getType()) || own.contains(field.getType()), true);
        }
        check.same("11: at most 20 fields: " + each, held <= 20, true);
    }
}
