import java.io.IOException;
import java.lang.reflect.Constructor;
import java.lang.reflect.Field;
import java.lang.reflect.Method;
import java.lang.reflect.Modifier;
import java.nio.file.Files;
import java.nio.file.Path;
import java.util.TreeSet;
import java.util.regex.Matcher;
import java.util.regex.Pattern;

/** The public face is the document's, no more and no less. */
public final class FaceTest {
    private static int wrong;

    private static void check(boolean holds, String what) {
        if (!holds) {
            wrong++;
            System.out.println(what);
        }
    }

    public static void main(String[] args) throws IOException, IllegalAccessException {
        String doc = Files.readString(Path.of("../shared/DOC.md"));
        int from = doc.indexOf("```java");
        String face = doc.substring(from, doc.indexOf("```", from + 3));
        check(methodsTold(face).equals(methodsThere()), "methods told " + methodsTold(face) + ", there " + methodsThere());
        check(methodsTold(face).size() == 53, "the face has 53 methods");
        constants(face);
        members();
        System.out.println(wrong == 0 ? "the face is as told" : wrong + " faults of the face");
        if (wrong != 0) {
            System.exit(1);
        }
    }

    private static TreeSet<String> methodsTold(String face) {
        TreeSet<String> out = new TreeSet<>();
        Matcher found = Pattern.compile("public (int|long) (\\w+)\\(([^)]*)\\);").matcher(face);
        while (found.find()) {
            String types = found.group(3).replaceAll(" \\w+(,|$)", "$1").replace(" ", "");
            out.add(found.group(1) + " " + found.group(2) + "(" + types + ")");
        }
        return out;
    }

    private static TreeSet<String> methodsThere() {
        TreeSet<String> out = new TreeSet<>();
        for (Method method : WhyRoom.class.getDeclaredMethods()) {
            if (Modifier.isPrivate(method.getModifiers())) {
                continue;
            }
            StringBuilder types = new StringBuilder();
            for (Class<?> type : method.getParameterTypes()) {
                types.append(types.length() == 0 ? "" : ",").append(type.getName());
            }
            out.add(method.getReturnType().getName() + " " + method.getName() + "(" + types + ")");
        }
        return out;
    }

    private static void constants(String face) throws IllegalAccessException {
        Matcher line = Pattern.compile("public static final int ([^;]*);").matcher(face);
        check(line.find(), "constants are told");
        int told = 0;
        for (String part : line.group(1).split(",")) {
            String[] sides = part.trim().split(" = ");
            told++;
            boolean is = false;
            for (Field field : WhyRoom.class.getFields()) {
                is |= field.getName().equals(sides[0]) && field.getInt(null) == Integer.parseInt(sides[1])
                    && field.getType() == int.class && Modifier.isFinal(field.getModifiers());
            }
            check(is, "the constant " + part);
        }
        check(WhyRoom.class.getFields().length == told, "as many constants as told");
    }

    private static void members() {
        check(Modifier.isFinal(WhyRoom.class.getModifiers()), "the class is final");
        check(WhyRoom.class.getPackageName().isEmpty(), "no package");
        Constructor<?>[] makers = WhyRoom.class.getDeclaredConstructors();
        check(makers.length == 1 && makers[0].getParameterCount() == 0 && Modifier.isPublic(makers[0].getModifiers()),
            "one public constructor");
        for (Field field : WhyRoom.class.getDeclaredFields()) {
            boolean isPublic = Modifier.isPublic(field.getModifiers());
            check(isPublic || Modifier.isPrivate(field.getModifiers()), field + " is neither public nor private");
            check(!Modifier.isStatic(field.getModifiers()) || Modifier.isFinal(field.getModifiers()), field + " is static, not final");
        }
        TreeSet<String> names = new TreeSet<>();
        for (Method method : WhyRoom.class.getMethods()) {
            names.add(method.getName());
        }
        noPrivateBears(names, WhyRoom.class);
        for (Class<?> inside : WhyRoom.class.getDeclaredClasses()) {
            check(Modifier.isStatic(inside.getModifiers()), inside + " is not static");
            check(!Modifier.isPublic(inside.getModifiers()) && !Modifier.isProtected(inside.getModifiers()), inside + " can be seen");
            noPrivateBears(names, inside);
            notTooManyFields(inside);
        }
        notTooManyFields(WhyRoom.class);
        check(WhyRoom.class.getDeclaredClasses().length <= 11, "too many classes");
    }

    private static void notTooManyFields(Class<?> type) {
        int fields = 0;
        for (Field field : type.getDeclaredFields()) {
            fields += Modifier.isStatic(field.getModifiers()) ? 0 : 1;
        }
        check(fields <= 20, type + " has too many fields");
    }

    private static void noPrivateBears(TreeSet<String> names, Class<?> type) {
        for (Method method : type.getDeclaredMethods()) {
            boolean isPublic = type == WhyRoom.class && Modifier.isPublic(method.getModifiers());
            check(isPublic || !names.contains(method.getName()), method + " bears the name of a public one");
            check(method.getParameterCount() <= 7, method + " takes too much");
        }
    }
}
