import java.lang.reflect.Field;
import java.lang.reflect.Modifier;
import java.nio.charset.StandardCharsets;
import java.nio.file.Files;
import java.nio.file.Path;
import java.util.List;
import java.util.regex.Matcher;
import java.util.regex.Pattern;

/** Those rules of LANGUAGE.md that a look at the text and at the class can tell. */
final class LanguageTest {
    private static final String[] FORBIDDEN = {
        "->", "::", "\\bcatch\\b", "\\bfinally\\b", "\\bassert\\b", "\\bsynchronized\\b", "\\bhashCode\\b", "\\btoString\\b",
        "\\bdouble\\[\\]\\[\\]", "\\bObject\\b", "\\bRandom\\b", "\\bSystem\\.(?!arraycopy)", "Exact\\b", "\\bstatic \\{",
        "^package ", "\\bMath\\.(?!max|min|abs|floorDiv|floorMod)",
    };
    private static final List<Class<?>> CONSTANTS = List.of(int.class, long.class, boolean.class, char.class, String.class);
    private static final Pattern CLASS = Pattern.compile("^\\s*(?:public|private) (?:static )?(?:final )?class \\w+", Pattern.MULTILINE);
    private static final Pattern METHOD = Pattern.compile("^( {4}| {8})[A-Za-z][^;={}]*\\(([^()]*)\\)[^;={}]*\\{$(.*?)^\\1\\}$", Pattern.MULTILINE | Pattern.DOTALL);

    private LanguageTest() {
    }

    static void run(Check check, Path file) throws java.io.IOException {
        String text = Files.readString(file, StandardCharsets.UTF_8);
        for (String forbidden : FORBIDDEN) {
            Matcher matcher = Pattern.compile(forbidden, Pattern.MULTILINE).matcher(text);
            check.is("the language: " + forbidden, matcher.find() ? "found" : "not found", "not found");
        }
        long classes = CLASS.matcher(text).results().count();
        check.is("some twelve classes, not " + classes, classes <= 13, true);
        check.is("only signs 1 to 127", text.chars().allMatch(sign -> sign < 128), true);
        Matcher methods = METHOD.matcher(text);
        int found = 0;
        while (methods.find()) {
            found++;
            String head = methods.group().split("\n")[0].trim();
            check.is("at most 60 lines: " + head, methods.group(3).lines().count() <= 60, true);
            check.is("at most 7 parameters: " + head, methods.group(2).split(",").length <= 7, true);
        }
        check.is("methods were looked at", found > 60, true);
        fields(check, Raidline.class);
        for (Class<?> inside : Raidline.class.getDeclaredClasses()) {
            check.is(inside.getSimpleName() + " is static", Modifier.isStatic(inside.getModifiers()), true);
            fields(check, inside);
        }
    }

    /** Rules 5 and 11: static fields are constants, and a class has some twenty others. */
    private static void fields(Check check, Class<?> one) {
        int count = 0;
        for (Field field : one.getDeclaredFields()) {
            if (!Modifier.isStatic(field.getModifiers())) {
                count++;
            } else if (!field.isSynthetic()) {
                boolean isConstant = Modifier.isFinal(field.getModifiers()) && CONSTANTS.contains(field.getType());
                check.is("a constant: " + field, isConstant, true);
            }
        }
        check.is("some twenty fields of " + one.getSimpleName() + ", not " + count, count <= 20, true);
    }
}
