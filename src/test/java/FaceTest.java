import java.lang.reflect.Constructor;
import java.lang.reflect.Executable;
import java.lang.reflect.Field;
import java.lang.reflect.Method;
import java.lang.reflect.Modifier;
import java.nio.file.Path;
import java.util.ArrayList;
import java.util.Arrays;
import java.util.Collections;
import java.util.HashSet;
import java.util.List;
import java.util.Set;
import java.util.stream.Collectors;

/** "The public face": the class has its members, each with its exceptions in their order, and no others. */
final class FaceTest {
    private static final int MEMBERS = 38;

    private FaceTest() {
    }

    static void run(Check check, Path document) throws java.io.IOException {
        List<String> due = new ArrayList<>();
        for (String member : Document.face(document)) {
            due.add(withoutNames(member));
        }
        check.is("members of the face", due.size(), MEMBERS);
        List<String> got = new ArrayList<>();
        for (Constructor<?> constructor : Raidline.class.getDeclaredConstructors()) {
            got.add(written(constructor, "Raidline"));
        }
        for (Method method : Raidline.class.getDeclaredMethods()) {
            if (!Modifier.isPrivate(method.getModifiers()) && !method.isSynthetic()) {
                got.add(written(method, method.getReturnType() + " " + method.getName()));
            }
        }
        Collections.sort(due);
        Collections.sort(got);
        check.is("the face", String.join("\n", got), String.join("\n", due));
        check.is("the class is public and final", Raidline.class.getModifiers(), Modifier.PUBLIC | Modifier.FINAL);
        nothingElse(check);
    }

    private static void nothingElse(Check check) {
        Set<String> names = publicNames();
        for (Method method : Raidline.class.getDeclaredMethods()) {
            if (Modifier.isPrivate(method.getModifiers())) {
                check.is(method.getName() + " bears a public name", names.contains(method.getName()), false);
            }
        }
        for (Field field : Raidline.class.getDeclaredFields()) {
            check.is("the field " + field.getName() + " is private", Modifier.isPrivate(field.getModifiers()), true);
        }
        for (Class<?> inside : Raidline.class.getDeclaredClasses()) {
            boolean isHidden = (inside.getModifiers() & (Modifier.PUBLIC | Modifier.PROTECTED)) == 0;
            check.is("the class " + inside.getSimpleName() + " is hidden", isHidden, true);
        }
    }

    static Set<String> publicNames() {
        Set<String> names = new HashSet<>();
        for (Method method : Raidline.class.getDeclaredMethods()) {
            if (Modifier.isPublic(method.getModifiers())) {
                names.add(method.getName());
            }
        }
        return names;
    }

    /** A member as the document has it, but of its parameters the types alone. */
    private static String withoutNames(String member) {
        int from = member.indexOf('(') + 1;
        int to = member.indexOf(')');
        String types = Arrays.stream(member.substring(from, to).split(", ")).map(one -> one.split(" ")[0]).collect(Collectors.joining(", "));
        return member.substring(0, from) + types + member.substring(to);
    }

    private static String written(Executable member, String name) {
        String thrown = names(member.getExceptionTypes());
        return Modifier.toString(member.getModifiers()) + " " + name + "(" + names(member.getParameterTypes()) + ")"
            + (thrown.isEmpty() ? "" : " throws " + thrown);
    }

    private static String names(Class<?>[] types) {
        return Arrays.stream(types).map(Class::getSimpleName).collect(Collectors.joining(", "));
    }
}
