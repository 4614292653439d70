import java.lang.reflect.Constructor;
import java.lang.reflect.Executable;
import java.lang.reflect.Field;
import java.lang.reflect.Member;
import java.lang.reflect.Method;
import java.lang.reflect.Modifier;
import java.nio.file.Files;
import java.nio.file.Path;
import java.util.Arrays;
import java.util.Set;
import java.util.TreeSet;
import java.util.regex.Matcher;
import java.util.regex.Pattern;

/** The public face: just what the document writes, and nothing else that can be reached. */
public final class FaceTest {
    public static void main(String[] args) throws Exception {
        Set<String> due = writtenFace(Files.readString(Path.of("../shared/DOC.md")));
        Checks.same("the face is in the document", due.size(), 45);
        Set<String> got = new TreeSet<>();
        for (Constructor<?> constructor : CrowdSketches.class.getDeclaredConstructors()) {
            got.add(describe(constructor, "CrowdSketches"));
        }
        for (Method method : CrowdSketches.class.getDeclaredMethods()) {
            if (canBeReached(method)) {
                got.add(describe(method, method.getReturnType().getSimpleName() + " " + method.getName()));
            }
        }
        Checks.same("the face", got, due);
        for (Field field : CrowdSketches.class.getDeclaredFields()) {
            Checks.same("field " + field.getName() + " can be reached", canBeReached(field), false);
        }
        Checks.same("final", Modifier.isFinal(CrowdSketches.class.getModifiers()), true);
        Checks.end();
    }

    private static boolean canBeReached(Member member) {
        return !Modifier.isPrivate(member.getModifiers()) && !member.isSynthetic();
    }

    private static Set<String> writtenFace(String document) {
        Set<String> face = new TreeSet<>();
        String code = document.substring(document.indexOf("```java"), document.indexOf("## Terms"));
        Matcher line = Pattern.compile("public ([^(){}]*)\\(([^)]*)\\)(?: throws ([^;]*))?;").matcher(code);
        while (line.find()) {
            String types = line.group(2).replaceAll(" \\w+(,|$)", "$1");
            String thrown = line.group(3) == null ? "" : line.group(3);
            face.add("public " + line.group(1) + "(" + types + ") throws [" + thrown + "]");
        }
        return face;
    }

    private static String describe(Executable one, String name) {
        String taken = names(one.getParameterTypes(), "(", ")");
        String thrown = names(one.getExceptionTypes(), "[", "]");
        return Modifier.toString(one.getModifiers()) + " " + name + taken + " throws " + thrown;
    }

    private static String names(Class<?>[] types, String start, String end) {
        String[] names = Arrays.stream(types).map(Class::getSimpleName).toArray(String[]::new);
        return start + String.join(", ", names) + end;
    }
}
