import java.io.IOException;
import java.lang.reflect.Executable;
import java.lang.reflect.Field;
import java.lang.reflect.Method;
import java.lang.reflect.Modifier;
import java.nio.charset.StandardCharsets;
import java.nio.file.Files;
import java.nio.file.Path;
import java.util.ArrayList;
import java.util.Arrays;
import java.util.List;
import java.util.regex.Matcher;
import java.util.regex.Pattern;

/** Those rules of LANGUAGE.md that the compiled class or its text shows; run from the project's folder. */
public final class LanguageTest {
    private static final Path TEXT = Path.of("src/main/java/WalkHouse.java");
    private static final int CLASSES = 12;
    private static final int FIELDS = 20;
    private static final int PARAMETERS = 7;
    private static final int LINES = 60;
    private static final List<String> LIBRARY = List.of("java.lang.String", "java.lang.StringBuilder", "java.lang.Integer",
            "java.util.ArrayList", "java.util.List");
    private static final List<String> IMPORTS = List.of("java.util.ArrayList", "java.util.Arrays", "java.util.Iterator", "java.util.List",
            "java.util.NoSuchElementException");
    private static final String EXCEPTIONS = "IllegalStateException|IllegalArgumentException|IndexOutOfBoundsException|ArithmeticException"
            + "|UnsupportedOperationException|NoSuchElementException|RuntimeException";

    /** A rule's number and what may not stand in the text. */
    private static final String[][] BARRED = {{"1", "\\bpackage\\b"}, {"1", "\\bprotected\\b"}, {"2", "->"}, {"2", "::"}, {"4", "\\w+Exact\\b"},
        {"4", "\\bSystem\\.(?!arraycopy\\b)"}, {"4", "\\bjava\\.(?!util\\.)"}, {"5", "\\bstatic\\s*\\{"}, {"6", "\\bfinally\\b"},
        {"6", "\\bsynchronized\\b"}, {"6", "\\bassert\\b"}, {"6", "\\btry\\s*\\("}, {"6", "\\bgetMessage\\b"}, {"6", "\\bhashCode\\b"},
        {"6", "\\bthrow\\b(?! new (" + EXCEPTIONS + ")\\((\"[^\"]*\")?\\);)"}, {"6", "\\bcatch\\s*\\((?!(" + EXCEPTIONS + ")\\b)"},
        {"7", "\\bcatch\\s*\\((IndexOutOfBounds|Arithmetic|Runtime)Exception"}, {"9", "\\bwhile\\s*\\(\\s*true"}, {"9", "\\bfor\\s*\\(\\s*;\\s*;"},
        {"13", "\\b(Thread|Random|Clock|Instant|File|Files|Socket)\\b"}};

    public static void main(String[] args) throws IOException {
        Check check = new Check();
        List<Class<?>> classes = new ArrayList<>(Arrays.asList(WalkHouse.class.getDeclaredClasses()));
        check.yes("rule 11: at most twelve classes", classes.size() < CLASSES);
        for (Class<?> inside : classes) {
            int kind = inside.getModifiers();
            check.yes("rule 1: " + inside + " is static", Modifier.isStatic(kind));
            check.no("rule 1: " + inside + " is seen outside", Modifier.isPublic(kind) || Modifier.isProtected(kind));
            check.is("rule 2: classes inside " + inside, 0, inside.getDeclaredClasses().length);
        }
        classes.add(WalkHouse.class);
        for (Class<?> each : classes) {
            fields(check, each);
            members(check, each);
        }
        text(check, Files.readString(TEXT, StandardCharsets.US_ASCII));
        check.end();
    }

    private static void fields(Check check, Class<?> each) {
        int own = 0;
        for (Field f : each.getDeclaredFields()) {
            check.yes("rule 3: the type of " + f, isAllowed(f.getType()));
            if (Modifier.isStatic(f.getModifiers())) {
                check.yes("rule 5: static, so final: " + f, Modifier.isFinal(f.getModifiers()));
                check.yes("rule 5: static, so plain: " + f, isConstant(f.getType()));
            } else {
                own++;
            }
        }
        check.yes("rule 11: at most twenty fields: " + each, own <= FIELDS);
    }

    private static void members(Check check, Class<?> each) {
        List<Executable> all = new ArrayList<>(Arrays.asList(each.getDeclaredMethods()));
        all.addAll(Arrays.asList(each.getDeclaredConstructors()));
        for (Executable e : all) {
            check.yes("rule 11: at most seven parameters: " + e, e.getParameterCount() <= PARAMETERS);
            for (Class<?> type : e.getParameterTypes()) {
                check.yes("rule 3: what " + e + " takes", isAllowed(type));
            }
            if (e instanceof Method m) {
                check.yes("rule 3: what " + e + " answers", m.getReturnType() == void.class || isAllowed(m.getReturnType()));
            }
        }
    }

    private static boolean isConstant(Class<?> type) {
        Class<?> plain = type.isArray() ? type.getComponentType() : type;
        return plain == int.class || plain == long.class || plain == char.class || plain == (type.isArray() ? byte.class : boolean.class)
                || type == String.class;
    }

    private static boolean isAllowed(Class<?> type) {
        if (!type.isArray()) {
            return type.isPrimitive() || isOwn(type) || LIBRARY.contains(type.getName());
        }
        Class<?> part = type.getComponentType();
        return part.isPrimitive() || isOwn(part) || part.isArray() && part.getComponentType().isPrimitive();
    }

    private static boolean isOwn(Class<?> type) {
        return type == WalkHouse.class || type.getEnclosingClass() == WalkHouse.class;
    }

    private static void text(Check check, String whole) {
        String text = whole.replaceAll("(?s)/\\*.*?\\*/", "").replaceAll("//[^\n]*", "");
        for (String[] barred : BARRED) {
            Matcher found = Pattern.compile(barred[1]).matcher(text);
            check.no("rule " + barred[0] + ": " + barred[1] + " stands in the text", found.find());
        }
        Matcher imports = Pattern.compile("(?m)^import (.*);$").matcher(text);
        while (imports.find()) {
            check.yes("rule 4: import " + imports.group(1), IMPORTS.contains(imports.group(1)));
        }
        lengths(check, whole.split("\n"));
    }

    /** A method begins at a line that opens a brace behind a parenthesis and ends at a brace as far from the margin. */
    private static void lengths(Check check, String[] lines) {
        Pattern opens = Pattern.compile("^( {4}| {8})\\w[^=]*\\)( throws \\w+)? \\{$");
        for (int k = 0; k < lines.length; k++) {
            Matcher begins = opens.matcher(lines[k]);
            if (begins.matches()) {
                int end = k;
                while (end < lines.length && !lines[end].equals(begins.group(1) + "}")) {
                    end++;
                }
                check.yes("rule 11: some sixty lines: " + lines[k].trim(), end - k < LINES);
            }
        }
    }
}
