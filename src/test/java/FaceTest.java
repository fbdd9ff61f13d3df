import java.lang.reflect.Constructor;
import java.lang.reflect.Field;
import java.lang.reflect.Method;
import java.lang.reflect.Modifier;
import java.util.ArrayList;
import java.util.Collections;
import java.util.List;

/** The public face, as the document has it. */
final class FaceTest {
    private static final String[] FACE = {
        "int player(int,int,int,char)", "int squad()", "int putUp(int)", "int bid(int,int)", "int match(int)",
        "int knockDown()", "int squadOf(int)", "int purse(int)", "int season()",
        "int edition(int,int,boolean,int)", "int begin(int,int,boolean)", "int turn()", "int raids()",
        "int points(int)", "int onMat(int)", "int matAt(int,int)", "int outAt(int,int)", "int benchAt(int,int)",
        "boolean raid(int)", "int touch(int,boolean,boolean)", "int bonus()", "int struggle(int)",
        "int stepOut(int)", "int comeBack()", "char card(int,char)", "int substitute(int,int)",
        "boolean review(int,int)", "boolean goesOn()", "int told(int,char)",
        "double value(int,int,int,int,int,int,int)", "int league(int)", "int placed(int)", "int champion()",
        "float emptyShare()", "double meanPoints()", "long checksum()", "boolean isTrue()",
    };

    private FaceTest() {
    }

    static void run(Check check) {
        List<String> due = new ArrayList<>(List.of(FACE));
        List<String> got = new ArrayList<>();
        for (Method method : Raidline.class.getDeclaredMethods()) {
            if (!Modifier.isPrivate(method.getModifiers()) && !method.isSynthetic()) {
                got.add(written(method));
                check.is(method.getName() + " is public", Modifier.isPublic(method.getModifiers()), true);
            } else if (!method.isSynthetic()) {
                check.is(method.getName() + " bears a public name", isPublicName(method.getName()), false);
            }
        }
        Collections.sort(due);
        Collections.sort(got);
        check.is("the methods", got, due);
        for (Field field : Raidline.class.getDeclaredFields()) {
            check.is("the field " + field.getName() + " is private", Modifier.isPrivate(field.getModifiers()), true);
        }
        Constructor<?>[] constructors = Raidline.class.getDeclaredConstructors();
        check.is("constructors", constructors.length, 1);
        check.is("parameters of the constructor", constructors[0].getParameterCount(), 0);
        check.is("the class is public and final", Raidline.class.getModifiers(), Modifier.PUBLIC | Modifier.FINAL);
    }

    private static boolean isPublicName(String name) {
        for (String line : FACE) {
            if (line.substring(line.indexOf(' ') + 1, line.indexOf('(')).equals(name)) {
                return true;
            }
        }
        return false;
    }

    private static String written(Method method) {
        StringBuilder line = new StringBuilder();
        line.append(method.getReturnType()).append(' ').append(method.getName()).append('(');
        for (Class<?> type : method.getParameterTypes()) {
            line.append(line.charAt(line.length() - 1) == '(' ? "" : ",").append(type);
        }
        return line.append(')').toString();
    }
}
