import java.lang.reflect.Field;
import java.lang.reflect.Method;
import java.lang.reflect.Modifier;
import java.nio.file.Files;
import java.nio.file.Path;
import java.util.Set;
import java.util.TreeSet;
import java.util.regex.Matcher;
import java.util.regex.Pattern;

/** The rules of LANGUAGE.md, as far as they can be seen in the text and in the compiled classes. */
public final class LanguageTest {
    private static final Path SOURCE = Path.of("src/main/java/VersionMaps.java");
    private static final int MOST_PARAMETERS = 7;
    private static final int MOST_LINES = 60;
    private static final int MOST_CLASSES = 12;
    private static final int MOST_FIELDS = 20;
    private static final Set<String> IMPORTS = Set.of("java.util.ArrayList", "java.util.List", "java.util.Arrays",
        "java.util.Iterator");
    /** By the number of the rule. */
    private static final String[][] FORBIDDEN = {
        {"1", "\\bpackage\\b"},
        {"2", "->|::"},
        {"4", "\\bSystem\\.(?!arraycopy\\b)|\\w+Exact\\("},
        {"5", "\\bstatic\\s*\\{"},
        {"6", "\\b(throw|throws|try|catch|finally|synchronized|assert|volatile|native|equals|hashCode|toString)\\b"},
        {"9", "while\\s*\\(\\s*true|for\\s*\\(\\s*;\\s*;"},
        {"13", "\\b(random|currentTimeMillis|nanoTime|identityHashCode)\\b"}};
    /** Heads of methods and constructors stand four places in, or eight in a class inside. */
    private static final Pattern METHOD =
        Pattern.compile("(?m)^( {4}| {8})(?! |(if|for|while|switch|do)\\b)[^\\n=;}]*\\) \\{$");

    private static int wrong = 0;

    private LanguageTest() {
    }

    public static void main(String[] args) throws Exception {
        String text = withoutComments(Files.readString(SOURCE));
        forbiddenWords(text);
        imports(text);
        methodsAreShort(text);
        Class<?>[] all = VersionMaps.class.getNestMembers();
        if (all.length > MOST_CLASSES) {
            tell("11", all.length + " classes");
        }
        for (Class<?> c : all) {
            classStands(c);
            fieldsStand(c);
            methodsStand(c);
        }
        System.out.println(all.length + " classes, rules broken: " + wrong);
        if (wrong != 0) {
            System.exit(1);
        }
    }

    private static void tell(String rule, String what) {
        wrong++;
        System.out.println("rule " + rule + " of LANGUAGE.md: " + what);
    }

    private static String withoutComments(String text) {
        return text.replaceAll("(?s)/\\*.*?\\*/", "").replaceAll("//[^\\n]*", "");
    }

    private static void forbiddenWords(String text) {
        for (String[] row : FORBIDDEN) {
            Matcher found = Pattern.compile(row[1]).matcher(text);
            while (found.find()) {
                tell(row[0], found.group());
            }
        }
    }

    private static void imports(String text) {
        Matcher found = Pattern.compile("import ([^;]*);").matcher(text);
        while (found.find()) {
            if (!IMPORTS.contains(found.group(1))) {
                tell("4", found.group());
            }
        }
    }

    /** A method ends with the first brace that stands as far to the right as its head. */
    private static void methodsAreShort(String text) {
        Matcher head = METHOD.matcher(text);
        int seen = 0;
        while (head.find()) {
            seen++;
            int end = text.indexOf("\n" + head.group(1) + "}", head.end());
            long lines = text.substring(head.start(), Math.max(end, head.start())).lines().count();
            if (end < 0 || lines > MOST_LINES) {
                tell("11", lines + " lines:" + head.group());
            }
        }
        if (seen < 18) {
            tell("11", "only " + seen + " methods were found in the text");
        }
    }

    private static void classStands(Class<?> c) {
        boolean outer = c == VersionMaps.class;
        int modifiers = c.getModifiers();
        if (c.isAnonymousClass() || c.isLocalClass() || !outer && !Modifier.isStatic(modifiers)) {
            tell("2", c + " is not a static nested class");
        }
        if (!outer && (Modifier.isPublic(modifiers) || Modifier.isProtected(modifiers))) {
            tell("1", c + " can be seen");
        }
    }

    private static void fieldsStand(Class<?> c) {
        int own = 0;
        for (Field f : c.getDeclaredFields()) {
            own += Modifier.isStatic(f.getModifiers()) ? 0 : 1;
            if (Modifier.isStatic(f.getModifiers()) && !Modifier.isFinal(f.getModifiers())) {
                tell("5", f + " is not final");
            }
        }
        if (own > MOST_FIELDS) {
            tell("11", c + " has " + own + " fields");
        }
    }

    private static void methodsStand(Class<?> c) {
        Set<String> seen = new TreeSet<>();
        for (Method m : VersionMaps.class.getMethods()) {
            if (m.getDeclaringClass() == VersionMaps.class) {
                seen.add(m.getName());
            }
        }
        for (Method m : c.getDeclaredMethods()) {
            if (Modifier.isPrivate(m.getModifiers()) && seen.contains(m.getName())) {
                tell("1", m + " bears the name of a public one");
            }
            if (m.getParameterCount() > MOST_PARAMETERS) {
                tell("11", m + " has too many parameters");
            }
        }
    }
}
