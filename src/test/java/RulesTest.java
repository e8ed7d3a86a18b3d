import java.io.IOException;
import java.lang.reflect.Constructor;
import java.lang.reflect.Field;
import java.lang.reflect.Method;
import java.lang.reflect.Modifier;
import java.nio.file.Files;
import java.nio.file.Path;
import java.util.Arrays;
import java.util.List;
import java.util.Set;
import java.util.TreeSet;
import java.util.regex.Matcher;
import java.util.regex.Pattern;

/** What can be seen of LANGUAGE.md from the text and the face of the class. */
public final class RulesTest {
    private static final Path SOURCE = Path.of("src/main/java/PairTables.java");
    private static final List<String> FORBIDDEN = List.of(
        "throw", "throws", "try", "catch", "finally", "synchronized", "assert", "instanceof", "yield", "var", "native",
        "volatile", "transient", "System\\.(?!arraycopy\\b)", "Integer\\.(?!bitCount\\b)", "Long\\.(?!bitCount\\b)",
        "Math\\.(?!max\\b|min\\b)", "Arrays\\.(?!fill\\b)", "->", "::", "static\\s*\\{", "\\bString\\b", "Exact\\b",
        "\\bThread\\b", "\\bRandom\\b", "hashCode", "equals", "toString", "protected");
    private static final List<String> FACE = List.of(
        "kinds", "turn", "triangle", "join", "turned", "fault", "fuse", "keep", "shelf", "points", "tell", "narrow",
        "isVoid", "fillings", "first", "sure", "reason", "type", "clear", "read", "value", "against", "carried",
        "count", "trace");
    private static int wrong = 0;

    public static void main(String[] args) throws IOException {
        String text = Files.readString(SOURCE);
        String code = text.replaceAll("(?s)/\\*.*?\\*/", "").replaceAll("//[^\n]*", "");
        forbiddenWords(code);
        imports(code);
        methods(code);
        face();
        inner();
        System.out.println(wrong == 0 ? "the rules that can be seen are kept" : wrong + " rules are not kept");
        if (wrong != 0) {
            System.exit(1);
        }
    }

    private static void fault(String what) {
        wrong++;
        System.out.println(what);
    }

    private static void forbiddenWords(String code) {
        for (String word : FORBIDDEN) {
            String pattern = Character.isLetter(word.charAt(0)) ? "\\b" + word + (Character.isLetter(word.charAt(word.length() - 1)) ? "\\b" : "") : word;
            Matcher matcher = Pattern.compile(pattern).matcher(code);
            if (matcher.find()) {
                fault("stands in the source: " + matcher.group());
            }
        }
        if (code.chars().anyMatch(c -> c > 126)) {
            fault("a sign beyond 126");
        }
    }

    private static void imports(String code) {
        Matcher matcher = Pattern.compile("import\\s+([^;]+);").matcher(code);
        while (matcher.find()) {
            if (!matcher.group(1).equals("java.util.Arrays")) {
                fault("import " + matcher.group(1));
            }
        }
    }

    /** Methods begin with four or eight blanks and end with a bracket that stands as far in. */
    private static void methods(String code) {
        String[] lines = code.split("\n");
        for (int at = 0; at < lines.length; at++) {
            Matcher head = Pattern.compile("( {4}| {8})(?! )[\\w\\[\\] ]*\\w+\\((.*)\\) \\{").matcher(lines[at]);
            if (!head.matches() || lines[at].matches(" *(if|for|while|switch|else).*")) {
                continue;
            }
            int end = at;
            while (end < lines.length && !lines[end].equals(head.group(1) + "}")) {
                end++;
            }
            if (end - at > 60) {
                fault("too long: " + lines[at]);
            }
            if (head.group(2).split(",").length > 7) {
                fault("too many parameters: " + lines[at]);
            }
        }
    }

    private static void face() {
        Set<String> seen = new TreeSet<>();
        for (Method method : PairTables.class.getDeclaredMethods()) {
            boolean isFace = FACE.contains(method.getName());
            if (isFace != Modifier.isPublic(method.getModifiers()) || !isFace && !Modifier.isPrivate(method.getModifiers())) {
                fault("not as the face has it: " + method);
            }
            if (isFace) {
                seen.add(method.getName());
            }
        }
        if (seen.size() != FACE.size()) {
            fault("missing in the face: " + seen);
        }
        for (Field field : PairTables.class.getDeclaredFields()) {
            boolean isFace = Set.of("BAD", "STATE", "FULL", "SPENT", "NONE").contains(field.getName());
            int wanted = isFace ? Modifier.PUBLIC | Modifier.STATIC | Modifier.FINAL : Modifier.PRIVATE;
            if ((field.getModifiers() & wanted) != wanted) {
                fault("not as the face has it: " + field);
            }
        }
        Constructor<?>[] made = PairTables.class.getDeclaredConstructors();
        if (made.length != 1 || made[0].getParameterCount() != 0 || !Modifier.isPublic(made[0].getModifiers())) {
            fault("constructors: " + Arrays.toString(made));
        }
    }

    private static void inner() {
        Class<?>[] classes = PairTables.class.getDeclaredClasses();
        if (classes.length + 1 > 12) {
            fault("classes: " + (classes.length + 1));
        }
        for (Class<?> one : classes) {
            if (!Modifier.isStatic(one.getModifiers())) {
                fault("not static: " + one);
            }
            int own = 0;
            for (Field field : one.getDeclaredFields()) {
                if (!Modifier.isStatic(field.getModifiers())) {
                    own++;
                } else if (!Modifier.isFinal(field.getModifiers())) {
                    fault("not final: " + field);
                }
            }
            if (own > 20) {
                fault("fields of " + one + ": " + own);
            }
            for (Method method : one.getDeclaredMethods()) {
                if (FACE.contains(method.getName())) {
                    fault("bears the name of a public one: " + method);
                }
            }
        }
    }
}
