import java.io.IOException;
import java.lang.reflect.Constructor;
import java.lang.reflect.Field;
import java.lang.reflect.Member;
import java.lang.reflect.Method;
import java.lang.reflect.Modifier;
import java.nio.file.Files;
import java.nio.file.Path;
import java.util.ArrayList;
import java.util.List;
import java.util.Set;
import java.util.TreeSet;

/** The face of Bags is that of the document, and its source keeps to what of LANGUAGE.md can be seen by such means. */
public final class FaceTest {
    private static int wrong = 0;

    private static void need(boolean isSo, String what) {
        if (!isSo) {
            wrong++;
            System.out.println("FaceTest: " + what);
        }
    }

    /** The signatures in the document, without the names of what is given. */
    private static Set<String> dueMethods() throws IOException {
        String face = Files.readString(Path.of("../shared/DOC.md")).split("```java")[1].split("```")[0];
        Set<String> due = new TreeSet<>();
        for (String line : face.split("\n")) {
            if (line.contains("(") && !line.contains("public Bags()")) {
                due.add(line.trim().replace(";", "").replaceAll("(int|boolean) \\w+(?=[,)])", "$1"));
            }
        }
        return due;
    }

    private static String listOf(Class<?>[] types) {
        List<String> names = new ArrayList<>();
        for (Class<?> type : types) {
            names.add(type.getSimpleName());
        }
        return String.join(", ", names);
    }

    private static String signatureOf(Method method) {
        String thrown = listOf(method.getExceptionTypes());
        return "public " + method.getReturnType().getSimpleName() + " " + method.getName()
            + "(" + listOf(method.getParameterTypes()) + ")" + (thrown.isEmpty() ? "" : " throws " + thrown);
    }

    private static boolean isPrivate(Member member) {
        return Modifier.isPrivate(member.getModifiers());
    }

    private static void checkFace() throws IOException {
        Set<String> stands = new TreeSet<>();
        Set<String> open = new TreeSet<>();
        for (Method method : Bags.class.getDeclaredMethods()) {
            if (!isPrivate(method)) {
                stands.add(signatureOf(method));
                open.add(method.getName());
            }
        }
        Set<String> due = dueMethods();
        need(due.size() == 59, "the document's face has " + due.size() + " methods");
        need(stands.equals(due), "the face is " + stands + ", due is " + due);
        checkHidden(Bags.class, open);
        for (Class<?> inner : Bags.class.getDeclaredClasses()) {
            need(Modifier.isStatic(inner.getModifiers()), inner + " is not static");
            need(!Modifier.isPublic(inner.getModifiers()), inner + " is public");
            checkHidden(inner, open);
        }
    }

    private static void checkHidden(Class<?> of, Set<String> open) {
        for (Method method : of.getDeclaredMethods()) {
            boolean isFace = of == Bags.class && !isPrivate(method);
            need(isFace || !open.contains(method.getName()), of + " has another " + method.getName());
            need(method.getParameterCount() <= 7, method + " takes too much");
        }
        int kept = 0;
        for (Field field : of.getDeclaredFields()) {
            need(isPrivate(field), field + " is not private");
            need(!Modifier.isStatic(field.getModifiers()) || Modifier.isFinal(field.getModifiers()), field + " is not final");
            kept += Modifier.isStatic(field.getModifiers()) ? 0 : 1;
        }
        need(kept <= 20, of + " has " + kept + " fields");
        Constructor<?>[] makers = of.getDeclaredConstructors();
        need(makers.length == 1, of + " has " + makers.length + " constructors");
        need(Modifier.isFinal(of.getModifiers()), of + " is not final");
    }

    private static void checkSource() throws IOException {
        String source = Files.readString(Path.of("src/main/java/Bags.java"));
        String[] barred = {"package ", "import ", "->", "::", "catch", "finally", "synchronized", "assert ",
            "System.", "Exact", "instanceof", " var ", "\" +", "+ \"", "getMessage", "static {", "while (true)"};
        for (String word : barred) {
            need(!source.contains(word), "the source has " + word);
        }
        for (int i = 0; i < source.length(); i++) {
            need(source.charAt(i) < 127, "the source has a sign that is not plain");
        }
        String[] lines = source.split("\n");
        for (int i = 0; i < lines.length; i++) {
            need(lines[i].length() <= 120, "line " + (i + 1) + " is long");
        }
        checkLengths(lines, "    ");
        checkLengths(lines, "        ");
    }

    /** What begins and ends at that indent is a method, if it is no class. */
    private static void checkLengths(String[] lines, String indent) {
        int head = 0;
        for (int i = 0; i < lines.length; i++) {
            if (lines[i].matches(indent + "\\w.*")) {
                head = i;
            }
            if (lines[i].equals(indent + "}") && !lines[head].contains(" class ")) {
                need(i - head < 60, "what begins in line " + (head + 1) + " is long");
            }
        }
    }

    public static void main(String[] arguments) throws IOException {
        checkFace();
        checkSource();
        System.out.println("FaceTest: " + wrong + " not as due");
        if (wrong > 0) {
            System.exit(1);
        }
    }
}
