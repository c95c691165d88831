import java.io.IOException;
import java.lang.reflect.Constructor;
import java.lang.reflect.Field;
import java.lang.reflect.Method;
import java.lang.reflect.Modifier;
import java.nio.file.Files;
import java.nio.file.Path;
import java.util.ArrayList;
import java.util.Arrays;
import java.util.List;
import java.util.TreeSet;

/** The public face as the document has it, and the rules of LANGUAGE.md that can be seen from outside. */
public final class FaceTest {
    private static final Path DOCUMENT = Path.of("../shared/DOC.md");
    private static final List<String> wrong = new ArrayList<>();

    public static void main(String[] args) throws IOException {
        List<String> methods = new ArrayList<>();
        for (String line : Files.readAllLines(DOCUMENT)) {
            if (line.startsWith("    public ") && line.contains("(") && !line.contains("HayWriting()")) {
                methods.add(plain(line));
            }
        }
        check(methods.size() == 42, "the document has " + methods.size() + " methods");
        face(methods);
        inside();
        wrong.forEach(System.out::println);
        System.out.println("FaceTest: " + methods.size() + " methods, " + wrong.size() + " wrong");
        if (!wrong.isEmpty()) {
            System.exit(1);
        }
    }

    private static void check(boolean fine, String otherwise) {
        if (!fine) {
            wrong.add(otherwise);
        }
    }

    /** "int cost(int,int,int)" of a line of the document, without the parameters' names. */
    private static String plain(String line) {
        String s = line.trim().replaceFirst("^public ", "").replaceFirst(";.*$", "");
        String thrown = s.contains(" throws ") ? s.substring(s.indexOf(" throws ")) : "";
        s = s.substring(0, s.length() - thrown.length());
        return s.replaceAll("(int|long|boolean) \\w+(?=[,)])", "$1").replace(" ", "") + thrown.replace(" ", "");
    }

    private static String plain(Method method) {
        StringBuilder s = new StringBuilder(method.getReturnType().getSimpleName() + method.getName() + "(");
        for (Class<?> type : method.getParameterTypes()) {
            s.append(s.charAt(s.length() - 1) == '(' ? "" : ",").append(type.getSimpleName());
        }
        s.append(')');
        for (Class<?> type : method.getExceptionTypes()) {
            s.append(s.charAt(s.length() - 1) == ')' ? "throws" : ",").append(type.getSimpleName());
        }
        return s.toString();
    }

    private static void face(List<String> due) {
        check(Modifier.toString(HayWriting.class.getModifiers()).equals("public final"), "the class isn't public final");
        check(HayWriting.NONE == -1, "NONE");
        List<String> found = new ArrayList<>();
        for (Method method : HayWriting.class.getDeclaredMethods()) {
            if (Modifier.isPublic(method.getModifiers())) {
                found.add(plain(method));
            } else {
                check(Modifier.isPrivate(method.getModifiers()), method + " is neither public nor private");
            }
        }
        check(new TreeSet<>(found).equals(new TreeSet<>(due)), "due " + new TreeSet<>(due) + "\nis " + new TreeSet<>(found));
        for (Field field : HayWriting.class.getDeclaredFields()) {
            boolean told = field.getName().equals("NONE");
            check(told ? Modifier.isPublic(field.getModifiers()) : Modifier.isPrivate(field.getModifiers()), "" + field);
        }
        Constructor<?>[] constructors = HayWriting.class.getDeclaredConstructors();
        check(constructors.length == 1 && constructors[0].getParameterCount() == 0
            && Modifier.isPublic(constructors[0].getModifiers()), "constructors " + Arrays.toString(constructors));
    }

    private static void inside() {
        TreeSet<String> faceNames = new TreeSet<>();
        for (Method method : HayWriting.class.getDeclaredMethods()) {
            if (Modifier.isPublic(method.getModifiers())) {
                faceNames.add(method.getName());
            }
        }
        Class<?>[] classes = HayWriting.class.getDeclaredClasses();
        check(classes.length + 1 <= 12, classes.length + " classes inside");
        for (Class<?> inner : classes) {
            check(Modifier.isStatic(inner.getModifiers()), inner + " isn't static");
            fields(inner);
            for (Method method : inner.getDeclaredMethods()) {
                check(!faceNames.contains(method.getName()), method + " has a name of the face");
                check(method.getParameterCount() <= 7, method + " takes too many");
            }
        }
        fields(HayWriting.class);
    }

    private static void fields(Class<?> owner) {
        int many = 0;
        for (Field field : owner.getDeclaredFields()) {
            boolean isStatic = Modifier.isStatic(field.getModifiers());
            check(!isStatic || Modifier.isFinal(field.getModifiers()), field + " is static and changes");
            many += isStatic ? 0 : 1;
        }
        check(many <= 20, owner + " has " + many + " fields");
    }
}
